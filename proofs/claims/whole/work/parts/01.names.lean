-- ===== PART A: goes FIRST, ahead of the names: the tables' words, and 'selects' of the private methods out of them =====
/-- a private method of a class that the tables say can be made, by its rows of tables_1 -/
def lw_okq (q : MethodName × Nat) : Prop := (q.1.cls ≠ "java/lang/invoke/MethodHandle" ∧ q.1.cls ≠ "java/lang/invoke/VarHandle") ∧ Cond.instantiable q.1.cls q.2 ∈ tables_1 ∧ Cond.privateMethod q.1 ∈ tables_1 ∧ Cond.instanceMethod q.1 ∈ tables_1
theorem lw_p0 : lw_okq (⟨"DoorSticks", "doorAt", "(I)LDoorSticks$Door;"⟩, 11) := ⟨⟨by decide +kernel, by decide +kernel⟩, List.mem_of_getElem? (i := 20) (by decide +kernel), List.mem_of_getElem? (i := 333) (by decide +kernel), List.mem_of_getElem? (i := 334) (by decide +kernel)⟩
theorem lw_p1 : lw_okq (⟨"DoorSticks", "courseNow", "(LDoorSticks$Door;)LDoorSticks$Course;"⟩, 11) := ⟨⟨by decide +kernel, by decide +kernel⟩, List.mem_of_getElem? (i := 20) (by decide +kernel), List.mem_of_getElem? (i := 337) (by decide +kernel), List.mem_of_getElem? (i := 338) (by decide +kernel)⟩
theorem lw_p2 : lw_okq (⟨"DoorSticks", "holdingHouse", "()LDoorSticks$House;"⟩, 11) := ⟨⟨by decide +kernel, by decide +kernel⟩, List.mem_of_getElem? (i := 20) (by decide +kernel), List.mem_of_getElem? (i := 341) (by decide +kernel), List.mem_of_getElem? (i := 342) (by decide +kernel)⟩
theorem lw_p3 : lw_okq (⟨"DoorSticks$Door", "dampness", "()I"⟩, 9) := ⟨⟨by decide +kernel, by decide +kernel⟩, List.mem_of_getElem? (i := 38) (by decide +kernel), List.mem_of_getElem? (i := 365) (by decide +kernel), List.mem_of_getElem? (i := 366) (by decide +kernel)⟩
theorem lw_p4 : lw_okq (⟨"DoorSticks$HouseText", "takes", "(C)Z"⟩, 7) := ⟨⟨by decide +kernel, by decide +kernel⟩, List.mem_of_getElem? (i := 125) (by decide +kernel), List.mem_of_getElem? (i := 442) (by decide +kernel), List.mem_of_getElem? (i := 443) (by decide +kernel)⟩
theorem lw_p5 : lw_okq (⟨"DoorSticks$HouseText", "takenWord", "()I"⟩, 7) := ⟨⟨by decide +kernel, by decide +kernel⟩, List.mem_of_getElem? (i := 125) (by decide +kernel), List.mem_of_getElem? (i := 446) (by decide +kernel), List.mem_of_getElem? (i := 447) (by decide +kernel)⟩
theorem lw_p6 : lw_okq (⟨"DoorSticks$HouseText", "alikeWith", "(Ljava/lang/String;)I"⟩, 7) := ⟨⟨by decide +kernel, by decide +kernel⟩, List.mem_of_getElem? (i := 125) (by decide +kernel), List.mem_of_getElem? (i := 457) (by decide +kernel), List.mem_of_getElem? (i := 458) (by decide +kernel)⟩
theorem lw_p7 : lw_okq (⟨"DoorSticks$HouseText", "takenNumber", "()I"⟩, 7) := ⟨⟨by decide +kernel, by decide +kernel⟩, List.mem_of_getElem? (i := 125) (by decide +kernel), List.mem_of_getElem? (i := 510) (by decide +kernel), List.mem_of_getElem? (i := 511) (by decide +kernel)⟩
theorem lw_p8 : lw_okq (⟨"DoorSticks$HouseText", "takesAnyOf", "(I)Z"⟩, 7) := ⟨⟨by decide +kernel, by decide +kernel⟩, List.mem_of_getElem? (i := 125) (by decide +kernel), List.mem_of_getElem? (i := 514) (by decide +kernel), List.mem_of_getElem? (i := 515) (by decide +kernel)⟩
theorem lw_p9 : lw_okq (⟨"DoorSticks$HouseText", "takesAllOf", "(I)Z"⟩, 7) := ⟨⟨by decide +kernel, by decide +kernel⟩, List.mem_of_getElem? (i := 125) (by decide +kernel), List.mem_of_getElem? (i := 518) (by decide +kernel), List.mem_of_getElem? (i := 519) (by decide +kernel)⟩
theorem lw_p10 : lw_okq (⟨"DoorSticks$HouseText", "takesFactor", "(I)Z"⟩, 7) := ⟨⟨by decide +kernel, by decide +kernel⟩, List.mem_of_getElem? (i := 125) (by decide +kernel), List.mem_of_getElem? (i := 522) (by decide +kernel), List.mem_of_getElem? (i := 523) (by decide +kernel)⟩
theorem lw_p11 : lw_okq (⟨"DoorSticks$HouseText", "takesTest", "()Z"⟩, 7) := ⟨⟨by decide +kernel, by decide +kernel⟩, List.mem_of_getElem? (i := 125) (by decide +kernel), List.mem_of_getElem? (i := 526) (by decide +kernel), List.mem_of_getElem? (i := 527) (by decide +kernel)⟩
theorem lw_p12 : lw_okq (⟨"DoorSticks$HouseText", "takenOneOf", "(Ljava/lang/String;)I"⟩, 7) := ⟨⟨by decide +kernel, by decide +kernel⟩, List.mem_of_getElem? (i := 125) (by decide +kernel), List.mem_of_getElem? (i := 531) (by decide +kernel), List.mem_of_getElem? (i := 532) (by decide +kernel)⟩
theorem lw_p13 : lw_okq (⟨"DoorSticks$HouseText", "addCode", "(I)V"⟩, 7) := ⟨⟨by decide +kernel, by decide +kernel⟩, List.mem_of_getElem? (i := 125) (by decide +kernel), List.mem_of_getElem? (i := 596) (by decide +kernel), List.mem_of_getElem? (i := 597) (by decide +kernel)⟩
theorem lw_p14 : lw_okq (⟨"DoorSticks$Course", "pass", "(I)V"⟩, 10) := ⟨⟨by decide +kernel, by decide +kernel⟩, List.mem_of_getElem? (i := 182) (by decide +kernel), List.mem_of_getElem? (i := 691) (by decide +kernel), List.mem_of_getElem? (i := 692) (by decide +kernel)⟩
theorem lw_p15 : lw_okq (⟨"DoorSticks", "costOf", "(LDoorSticks$Door;I)I"⟩, 11) := ⟨⟨by decide +kernel, by decide +kernel⟩, List.mem_of_getElem? (i := 20) (by decide +kernel), List.mem_of_getElem? (i := 733) (by decide +kernel), List.mem_of_getElem? (i := 734) (by decide +kernel)⟩
def lw_privs_1 : List (MethodName × Nat) := [(⟨"DoorSticks", "doorAt", "(I)LDoorSticks$Door;"⟩, 11), (⟨"DoorSticks", "courseNow", "(LDoorSticks$Door;)LDoorSticks$Course;"⟩, 11), (⟨"DoorSticks", "holdingHouse", "()LDoorSticks$House;"⟩, 11), (⟨"DoorSticks$Door", "dampness", "()I"⟩, 9), (⟨"DoorSticks$HouseText", "takes", "(C)Z"⟩, 7), (⟨"DoorSticks$HouseText", "takenWord", "()I"⟩, 7), (⟨"DoorSticks$HouseText", "alikeWith", "(Ljava/lang/String;)I"⟩, 7), (⟨"DoorSticks$HouseText", "takenNumber", "()I"⟩, 7), (⟨"DoorSticks$HouseText", "takesAnyOf", "(I)Z"⟩, 7), (⟨"DoorSticks$HouseText", "takesAllOf", "(I)Z"⟩, 7), (⟨"DoorSticks$HouseText", "takesFactor", "(I)Z"⟩, 7), (⟨"DoorSticks$HouseText", "takesTest", "()Z"⟩, 7), (⟨"DoorSticks$HouseText", "takenOneOf", "(Ljava/lang/String;)I"⟩, 7), (⟨"DoorSticks$HouseText", "addCode", "(I)V"⟩, 7), (⟨"DoorSticks$Course", "pass", "(I)V"⟩, 10), (⟨"DoorSticks", "costOf", "(LDoorSticks$Door;I)I"⟩, 11)]
theorem lw_r1 : ∀ q ∈ lw_privs_1, lw_okq q := List.forall_mem_cons.mpr ⟨lw_p0, List.forall_mem_cons.mpr ⟨lw_p1, List.forall_mem_cons.mpr ⟨lw_p2, List.forall_mem_cons.mpr ⟨lw_p3, List.forall_mem_cons.mpr ⟨lw_p4, List.forall_mem_cons.mpr ⟨lw_p5, List.forall_mem_cons.mpr ⟨lw_p6, List.forall_mem_cons.mpr ⟨lw_p7, List.forall_mem_cons.mpr ⟨lw_p8, List.forall_mem_cons.mpr ⟨lw_p9, List.forall_mem_cons.mpr ⟨lw_p10, List.forall_mem_cons.mpr ⟨lw_p11, List.forall_mem_cons.mpr ⟨lw_p12, List.forall_mem_cons.mpr ⟨lw_p13, List.forall_mem_cons.mpr ⟨lw_p14, List.forall_mem_cons.mpr ⟨lw_p15, fun _ h => absurd h List.not_mem_nil⟩⟩⟩⟩⟩⟩⟩⟩⟩⟩⟩⟩⟩⟩⟩⟩
theorem lw_p16 : lw_okq (⟨"DoorSticks", "rubsLessChanged", "(LDoorSticks$Door;LDoorSticks$Door;)Z"⟩, 11) := ⟨⟨by decide +kernel, by decide +kernel⟩, List.mem_of_getElem? (i := 20) (by decide +kernel), List.mem_of_getElem? (i := 767) (by decide +kernel), List.mem_of_getElem? (i := 768) (by decide +kernel)⟩
theorem lw_p17 : lw_okq (⟨"DoorSticks", "tapeAt", "(I)LDoorSticks$Tape;"⟩, 11) := ⟨⟨by decide +kernel, by decide +kernel⟩, List.mem_of_getElem? (i := 20) (by decide +kernel), List.mem_of_getElem? (i := 788) (by decide +kernel), List.mem_of_getElem? (i := 789) (by decide +kernel)⟩
theorem lw_p18 : lw_okq (⟨"DoorSticks$Acts", "began", "(I)V"⟩, 5) := ⟨⟨by decide +kernel, by decide +kernel⟩, List.mem_of_getElem? (i := 231) (by decide +kernel), List.mem_of_getElem? (i := 826) (by decide +kernel), List.mem_of_getElem? (i := 827) (by decide +kernel)⟩
theorem lw_p19 : lw_okq (⟨"DoorSticksModel", "in", "(III)Z"⟩, 63) := ⟨⟨by decide +kernel, by decide +kernel⟩, List.mem_of_getElem? (i := 895) (by decide +kernel), List.mem_of_getElem? (i := 1096) (by decide +kernel), List.mem_of_getElem? (i := 1097) (by decide +kernel)⟩
theorem lw_p20 : lw_okq (⟨"DoorSticksModel", "isDoor", "(I)Z"⟩, 63) := ⟨⟨by decide +kernel, by decide +kernel⟩, List.mem_of_getElem? (i := 895) (by decide +kernel), List.mem_of_getElem? (i := 1112) (by decide +kernel), List.mem_of_getElem? (i := 1113) (by decide +kernel)⟩
theorem lw_p21 : lw_okq (⟨"DoorSticksModel", "goesText", "(I)Z"⟩, 63) := ⟨⟨by decide +kernel, by decide +kernel⟩, List.mem_of_getElem? (i := 895) (by decide +kernel), List.mem_of_getElem? (i := 1128) (by decide +kernel), List.mem_of_getElem? (i := 1129) (by decide +kernel)⟩
theorem lw_p22 : lw_okq (⟨"DoorSticksModel", "takesClause", "(I)Z"⟩, 63) := ⟨⟨by decide +kernel, by decide +kernel⟩, List.mem_of_getElem? (i := 895) (by decide +kernel), List.mem_of_getElem? (i := 1132) (by decide +kernel), List.mem_of_getElem? (i := 1133) (by decide +kernel)⟩
theorem lw_p23 : lw_okq (⟨"DoorSticksModel", "takesHead", "(I)Z"⟩, 63) := ⟨⟨by decide +kernel, by decide +kernel⟩, List.mem_of_getElem? (i := 895) (by decide +kernel), List.mem_of_getElem? (i := 1136) (by decide +kernel), List.mem_of_getElem? (i := 1137) (by decide +kernel)⟩
theorem lw_p24 : lw_okq (⟨"DoorSticksModel", "second", "()I"⟩, 63) := ⟨⟨by decide +kernel, by decide +kernel⟩, List.mem_of_getElem? (i := 895) (by decide +kernel), List.mem_of_getElem? (i := 1140) (by decide +kernel), List.mem_of_getElem? (i := 1141) (by decide +kernel)⟩
theorem lw_p25 : lw_okq (⟨"DoorSticksModel", "fourth", "()I"⟩, 63) := ⟨⟨by decide +kernel, by decide +kernel⟩, List.mem_of_getElem? (i := 895) (by decide +kernel), List.mem_of_getElem? (i := 1144) (by decide +kernel), List.mem_of_getElem? (i := 1145) (by decide +kernel)⟩
theorem lw_p26 : lw_okq (⟨"DoorSticksModel", "next", "()I"⟩, 63) := ⟨⟨by decide +kernel, by decide +kernel⟩, List.mem_of_getElem? (i := 895) (by decide +kernel), List.mem_of_getElem? (i := 1148) (by decide +kernel), List.mem_of_getElem? (i := 1149) (by decide +kernel)⟩
theorem lw_p27 : lw_okq (⟨"DoorSticksModel", "takesWord", "(II)Z"⟩, 63) := ⟨⟨by decide +kernel, by decide +kernel⟩, List.mem_of_getElem? (i := 895) (by decide +kernel), List.mem_of_getElem? (i := 1152) (by decide +kernel), List.mem_of_getElem? (i := 1153) (by decide +kernel)⟩
theorem lw_p28 : lw_okq (⟨"DoorSticksModel", "takes", "(I)Z"⟩, 63) := ⟨⟨by decide +kernel, by decide +kernel⟩, List.mem_of_getElem? (i := 895) (by decide +kernel), List.mem_of_getElem? (i := 1156) (by decide +kernel), List.mem_of_getElem? (i := 1157) (by decide +kernel)⟩
theorem lw_p29 : lw_okq (⟨"DoorSticksModel", "third", "()I"⟩, 63) := ⟨⟨by decide +kernel, by decide +kernel⟩, List.mem_of_getElem? (i := 895) (by decide +kernel), List.mem_of_getElem? (i := 1160) (by decide +kernel), List.mem_of_getElem? (i := 1161) (by decide +kernel)⟩
theorem lw_p30 : lw_okq (⟨"DoorSticksModel", "takesNumber", "()Z"⟩, 63) := ⟨⟨by decide +kernel, by decide +kernel⟩, List.mem_of_getElem? (i := 895) (by decide +kernel), List.mem_of_getElem? (i := 1164) (by decide +kernel), List.mem_of_getElem? (i := 1165) (by decide +kernel)⟩
theorem lw_p31 : lw_okq (⟨"DoorSticksModel", "isDigit", "()Z"⟩, 63) := ⟨⟨by decide +kernel, by decide +kernel⟩, List.mem_of_getElem? (i := 895) (by decide +kernel), List.mem_of_getElem? (i := 1168) (by decide +kernel), List.mem_of_getElem? (i := 1169) (by decide +kernel)⟩
def lw_privs_2 : List (MethodName × Nat) := [(⟨"DoorSticks", "rubsLessChanged", "(LDoorSticks$Door;LDoorSticks$Door;)Z"⟩, 11), (⟨"DoorSticks", "tapeAt", "(I)LDoorSticks$Tape;"⟩, 11), (⟨"DoorSticks$Acts", "began", "(I)V"⟩, 5), (⟨"DoorSticksModel", "in", "(III)Z"⟩, 63), (⟨"DoorSticksModel", "isDoor", "(I)Z"⟩, 63), (⟨"DoorSticksModel", "goesText", "(I)Z"⟩, 63), (⟨"DoorSticksModel", "takesClause", "(I)Z"⟩, 63), (⟨"DoorSticksModel", "takesHead", "(I)Z"⟩, 63), (⟨"DoorSticksModel", "second", "()I"⟩, 63), (⟨"DoorSticksModel", "fourth", "()I"⟩, 63), (⟨"DoorSticksModel", "next", "()I"⟩, 63), (⟨"DoorSticksModel", "takesWord", "(II)Z"⟩, 63), (⟨"DoorSticksModel", "takes", "(I)Z"⟩, 63), (⟨"DoorSticksModel", "third", "()I"⟩, 63), (⟨"DoorSticksModel", "takesNumber", "()Z"⟩, 63), (⟨"DoorSticksModel", "isDigit", "()Z"⟩, 63)]
theorem lw_r2 : ∀ q ∈ lw_privs_2, lw_okq q := List.forall_mem_cons.mpr ⟨lw_p16, List.forall_mem_cons.mpr ⟨lw_p17, List.forall_mem_cons.mpr ⟨lw_p18, List.forall_mem_cons.mpr ⟨lw_p19, List.forall_mem_cons.mpr ⟨lw_p20, List.forall_mem_cons.mpr ⟨lw_p21, List.forall_mem_cons.mpr ⟨lw_p22, List.forall_mem_cons.mpr ⟨lw_p23, List.forall_mem_cons.mpr ⟨lw_p24, List.forall_mem_cons.mpr ⟨lw_p25, List.forall_mem_cons.mpr ⟨lw_p26, List.forall_mem_cons.mpr ⟨lw_p27, List.forall_mem_cons.mpr ⟨lw_p28, List.forall_mem_cons.mpr ⟨lw_p29, List.forall_mem_cons.mpr ⟨lw_p30, List.forall_mem_cons.mpr ⟨lw_p31, fun _ h => absurd h List.not_mem_nil⟩⟩⟩⟩⟩⟩⟩⟩⟩⟩⟩⟩⟩⟩⟩⟩
theorem lw_p32 : lw_okq (⟨"DoorSticksModel", "takesE", "(I)Z"⟩, 63) := ⟨⟨by decide +kernel, by decide +kernel⟩, List.mem_of_getElem? (i := 895) (by decide +kernel), List.mem_of_getElem? (i := 1172) (by decide +kernel), List.mem_of_getElem? (i := 1173) (by decide +kernel)⟩
theorem lw_p33 : lw_okq (⟨"DoorSticksModel", "takesTest", "()Z"⟩, 63) := ⟨⟨by decide +kernel, by decide +kernel⟩, List.mem_of_getElem? (i := 895) (by decide +kernel), List.mem_of_getElem? (i := 1176) (by decide +kernel), List.mem_of_getElem? (i := 1177) (by decide +kernel)⟩
theorem lw_p34 : lw_okq (⟨"DoorSticksModel", "place", "(I)I"⟩, 63) := ⟨⟨by decide +kernel, by decide +kernel⟩, List.mem_of_getElem? (i := 895) (by decide +kernel), List.mem_of_getElem? (i := 1180) (by decide +kernel), List.mem_of_getElem? (i := 1181) (by decide +kernel)⟩
theorem lw_p35 : lw_okq (⟨"DoorSticksModel", "put", "(I)V"⟩, 63) := ⟨⟨by decide +kernel, by decide +kernel⟩, List.mem_of_getElem? (i := 895) (by decide +kernel), List.mem_of_getElem? (i := 1184) (by decide +kernel), List.mem_of_getElem? (i := 1185) (by decide +kernel)⟩
theorem lw_p36 : lw_okq (⟨"DoorSticksModel", "whole", "()V"⟩, 63) := ⟨⟨by decide +kernel, by decide +kernel⟩, List.mem_of_getElem? (i := 895) (by decide +kernel), List.mem_of_getElem? (i := 1188) (by decide +kernel), List.mem_of_getElem? (i := 1189) (by decide +kernel)⟩
theorem lw_p37 : lw_okq (⟨"DoorSticksModel", "settle", "(I)V"⟩, 63) := ⟨⟨by decide +kernel, by decide +kernel⟩, List.mem_of_getElem? (i := 895) (by decide +kernel), List.mem_of_getElem? (i := 1192) (by decide +kernel), List.mem_of_getElem? (i := 1193) (by decide +kernel)⟩
theorem lw_p38 : lw_okq (⟨"DoorSticksModel", "gap", "(II)I"⟩, 63) := ⟨⟨by decide +kernel, by decide +kernel⟩, List.mem_of_getElem? (i := 895) (by decide +kernel), List.mem_of_getElem? (i := 1200) (by decide +kernel), List.mem_of_getElem? (i := 1201) (by decide +kernel)⟩
theorem lw_p39 : lw_okq (⟨"DoorSticksModel", "swellOf", "(I)I"⟩, 63) := ⟨⟨by decide +kernel, by decide +kernel⟩, List.mem_of_getElem? (i := 895) (by decide +kernel), List.mem_of_getElem? (i := 1204) (by decide +kernel), List.mem_of_getElem? (i := 1205) (by decide +kernel)⟩
theorem lw_p40 : lw_okq (⟨"DoorSticksModel", "hasSwell", "()Z"⟩, 63) := ⟨⟨by decide +kernel, by decide +kernel⟩, List.mem_of_getElem? (i := 895) (by decide +kernel), List.mem_of_getElem? (i := 1208) (by decide +kernel), List.mem_of_getElem? (i := 1209) (by decide +kernel)⟩
theorem lw_p41 : lw_okq (⟨"DoorSticksModel", "begin", "()I"⟩, 63) := ⟨⟨by decide +kernel, by decide +kernel⟩, List.mem_of_getElem? (i := 895) (by decide +kernel), List.mem_of_getElem? (i := 1212) (by decide +kernel), List.mem_of_getElem? (i := 1213) (by decide +kernel)⟩
theorem lw_p42 : lw_okq (⟨"DoorSticksModel", "behind", "()I"⟩, 63) := ⟨⟨by decide +kernel, by decide +kernel⟩, List.mem_of_getElem? (i := 895) (by decide +kernel), List.mem_of_getElem? (i := 1216) (by decide +kernel), List.mem_of_getElem? (i := 1217) (by decide +kernel)⟩
theorem lw_p43 : lw_okq (⟨"DoorSticksModel", "sumOf", "(II)I"⟩, 63) := ⟨⟨by decide +kernel, by decide +kernel⟩, List.mem_of_getElem? (i := 895) (by decide +kernel), List.mem_of_getElem? (i := 1220) (by decide +kernel), List.mem_of_getElem? (i := 1221) (by decide +kernel)⟩
theorem lw_p44 : lw_okq (⟨"DoorSticksModel", "holds", "(II)Z"⟩, 63) := ⟨⟨by decide +kernel, by decide +kernel⟩, List.mem_of_getElem? (i := 895) (by decide +kernel), List.mem_of_getElem? (i := 1224) (by decide +kernel), List.mem_of_getElem? (i := 1225) (by decide +kernel)⟩
theorem lw_p45 : lw_okq (⟨"DoorSticksModel", "factOf", "(II)I"⟩, 63) := ⟨⟨by decide +kernel, by decide +kernel⟩, List.mem_of_getElem? (i := 895) (by decide +kernel), List.mem_of_getElem? (i := 1228) (by decide +kernel), List.mem_of_getElem? (i := 1229) (by decide +kernel)⟩
theorem lw_p46 : lw_okq (⟨"DoorSticksModel", "hangOf", "(I)I"⟩, 63) := ⟨⟨by decide +kernel, by decide +kernel⟩, List.mem_of_getElem? (i := 895) (by decide +kernel), List.mem_of_getElem? (i := 1232) (by decide +kernel), List.mem_of_getElem? (i := 1233) (by decide +kernel)⟩
theorem lw_p47 : lw_okq (⟨"DoorSticksModel", "bendOf", "(I)I"⟩, 63) := ⟨⟨by decide +kernel, by decide +kernel⟩, List.mem_of_getElem? (i := 895) (by decide +kernel), List.mem_of_getElem? (i := 1236) (by decide +kernel), List.mem_of_getElem? (i := 1237) (by decide +kernel)⟩
def lw_privs_3 : List (MethodName × Nat) := [(⟨"DoorSticksModel", "takesE", "(I)Z"⟩, 63), (⟨"DoorSticksModel", "takesTest", "()Z"⟩, 63), (⟨"DoorSticksModel", "place", "(I)I"⟩, 63), (⟨"DoorSticksModel", "put", "(I)V"⟩, 63), (⟨"DoorSticksModel", "whole", "()V"⟩, 63), (⟨"DoorSticksModel", "settle", "(I)V"⟩, 63), (⟨"DoorSticksModel", "gap", "(II)I"⟩, 63), (⟨"DoorSticksModel", "swellOf", "(I)I"⟩, 63), (⟨"DoorSticksModel", "hasSwell", "()Z"⟩, 63), (⟨"DoorSticksModel", "begin", "()I"⟩, 63), (⟨"DoorSticksModel", "behind", "()I"⟩, 63), (⟨"DoorSticksModel", "sumOf", "(II)I"⟩, 63), (⟨"DoorSticksModel", "holds", "(II)Z"⟩, 63), (⟨"DoorSticksModel", "factOf", "(II)I"⟩, 63), (⟨"DoorSticksModel", "hangOf", "(I)I"⟩, 63), (⟨"DoorSticksModel", "bendOf", "(I)I"⟩, 63)]
theorem lw_r3 : ∀ q ∈ lw_privs_3, lw_okq q := List.forall_mem_cons.mpr ⟨lw_p32, List.forall_mem_cons.mpr ⟨lw_p33, List.forall_mem_cons.mpr ⟨lw_p34, List.forall_mem_cons.mpr ⟨lw_p35, List.forall_mem_cons.mpr ⟨lw_p36, List.forall_mem_cons.mpr ⟨lw_p37, List.forall_mem_cons.mpr ⟨lw_p38, List.forall_mem_cons.mpr ⟨lw_p39, List.forall_mem_cons.mpr ⟨lw_p40, List.forall_mem_cons.mpr ⟨lw_p41, List.forall_mem_cons.mpr ⟨lw_p42, List.forall_mem_cons.mpr ⟨lw_p43, List.forall_mem_cons.mpr ⟨lw_p44, List.forall_mem_cons.mpr ⟨lw_p45, List.forall_mem_cons.mpr ⟨lw_p46, List.forall_mem_cons.mpr ⟨lw_p47, fun _ h => absurd h List.not_mem_nil⟩⟩⟩⟩⟩⟩⟩⟩⟩⟩⟩⟩⟩⟩⟩⟩
theorem lw_p48 : lw_okq (⟨"DoorSticksModel", "gapBy", "(IIIIII)I"⟩, 63) := ⟨⟨by decide +kernel, by decide +kernel⟩, List.mem_of_getElem? (i := 895) (by decide +kernel), List.mem_of_getElem? (i := 1240) (by decide +kernel), List.mem_of_getElem? (i := 1241) (by decide +kernel)⟩
theorem lw_p49 : lw_okq (⟨"DoorSticksModel", "rubs", "(I)I"⟩, 63) := ⟨⟨by decide +kernel, by decide +kernel⟩, List.mem_of_getElem? (i := 895) (by decide +kernel), List.mem_of_getElem? (i := 1244) (by decide +kernel), List.mem_of_getElem? (i := 1245) (by decide +kernel)⟩
theorem lw_p50 : lw_okq (⟨"DoorSticksModel", "draughts", "(I)I"⟩, 63) := ⟨⟨by decide +kernel, by decide +kernel⟩, List.mem_of_getElem? (i := 895) (by decide +kernel), List.mem_of_getElem? (i := 1248) (by decide +kernel), List.mem_of_getElem? (i := 1249) (by decide +kernel)⟩
theorem lw_p51 : lw_okq (⟨"DoorSticksModel", "lastOf", "(II)I"⟩, 63) := ⟨⟨by decide +kernel, by decide +kernel⟩, List.mem_of_getElem? (i := 895) (by decide +kernel), List.mem_of_getElem? (i := 1252) (by decide +kernel), List.mem_of_getElem? (i := 1253) (by decide +kernel)⟩
theorem lw_p52 : lw_okq (⟨"DoorSticksModel", "goOn", "()V"⟩, 63) := ⟨⟨by decide +kernel, by decide +kernel⟩, List.mem_of_getElem? (i := 895) (by decide +kernel), List.mem_of_getElem? (i := 1264) (by decide +kernel), List.mem_of_getElem? (i := 1265) (by decide +kernel)⟩
theorem lw_p53 : lw_okq (⟨"DoorSticksModel", "goMonth", "(I)V"⟩, 63) := ⟨⟨by decide +kernel, by decide +kernel⟩, List.mem_of_getElem? (i := 895) (by decide +kernel), List.mem_of_getElem? (i := 1268) (by decide +kernel), List.mem_of_getElem? (i := 1269) (by decide +kernel)⟩
theorem lw_p54 : lw_okq (⟨"DoorSticksModel", "nearer", "(IIZ)I"⟩, 63) := ⟨⟨by decide +kernel, by decide +kernel⟩, List.mem_of_getElem? (i := 895) (by decide +kernel), List.mem_of_getElem? (i := 1272) (by decide +kernel), List.mem_of_getElem? (i := 1273) (by decide +kernel)⟩
theorem lw_p55 : lw_okq (⟨"DoorSticksModel", "isWhere", "(II)Z"⟩, 63) := ⟨⟨by decide +kernel, by decide +kernel⟩, List.mem_of_getElem? (i := 895) (by decide +kernel), List.mem_of_getElem? (i := 1280) (by decide +kernel), List.mem_of_getElem? (i := 1281) (by decide +kernel)⟩
theorem lw_p56 : lw_okq (⟨"DoorSticksModel", "isSpot", "(I)Z"⟩, 63) := ⟨⟨by decide +kernel, by decide +kernel⟩, List.mem_of_getElem? (i := 895) (by decide +kernel), List.mem_of_getElem? (i := 1284) (by decide +kernel), List.mem_of_getElem? (i := 1285) (by decide +kernel)⟩
theorem lw_p57 : lw_okq (⟨"DoorSticksModel", "planes", "(III)I"⟩, 63) := ⟨⟨by decide +kernel, by decide +kernel⟩, List.mem_of_getElem? (i := 895) (by decide +kernel), List.mem_of_getElem? (i := 1288) (by decide +kernel), List.mem_of_getElem? (i := 1289) (by decide +kernel)⟩
theorem lw_p58 : lw_okq (⟨"DoorSticksModel", "packed", "(II)I"⟩, 63) := ⟨⟨by decide +kernel, by decide +kernel⟩, List.mem_of_getElem? (i := 895) (by decide +kernel), List.mem_of_getElem? (i := 1292) (by decide +kernel), List.mem_of_getElem? (i := 1293) (by decide +kernel)⟩
theorem lw_p59 : lw_okq (⟨"DoorSticksModel", "paints", "(II)I"⟩, 63) := ⟨⟨by decide +kernel, by decide +kernel⟩, List.mem_of_getElem? (i := 895) (by decide +kernel), List.mem_of_getElem? (i := 1296) (by decide +kernel), List.mem_of_getElem? (i := 1297) (by decide +kernel)⟩
theorem lw_p60 : lw_okq (⟨"DoorSticksModel", "keep", "()V"⟩, 63) := ⟨⟨by decide +kernel, by decide +kernel⟩, List.mem_of_getElem? (i := 895) (by decide +kernel), List.mem_of_getElem? (i := 1304) (by decide +kernel), List.mem_of_getElem? (i := 1305) (by decide +kernel)⟩
theorem lw_p61 : lw_okq (⟨"DoorSticksModel", "putBack", "()V"⟩, 63) := ⟨⟨by decide +kernel, by decide +kernel⟩, List.mem_of_getElem? (i := 895) (by decide +kernel), List.mem_of_getElem? (i := 1308) (by decide +kernel), List.mem_of_getElem? (i := 1309) (by decide +kernel)⟩
theorem lw_p62 : lw_okq (⟨"DoorSticksModel", "layGaps", "(III)V"⟩, 63) := ⟨⟨by decide +kernel, by decide +kernel⟩, List.mem_of_getElem? (i := 895) (by decide +kernel), List.mem_of_getElem? (i := 1320) (by decide +kernel), List.mem_of_getElem? (i := 1321) (by decide +kernel)⟩
theorem lw_p63 : lw_okq (⟨"DoorSticksModel", "offOf", "(II)I"⟩, 63) := ⟨⟨by decide +kernel, by decide +kernel⟩, List.mem_of_getElem? (i := 895) (by decide +kernel), List.mem_of_getElem? (i := 1328) (by decide +kernel), List.mem_of_getElem? (i := 1329) (by decide +kernel)⟩
def lw_privs_4 : List (MethodName × Nat) := [(⟨"DoorSticksModel", "gapBy", "(IIIIII)I"⟩, 63), (⟨"DoorSticksModel", "rubs", "(I)I"⟩, 63), (⟨"DoorSticksModel", "draughts", "(I)I"⟩, 63), (⟨"DoorSticksModel", "lastOf", "(II)I"⟩, 63), (⟨"DoorSticksModel", "goOn", "()V"⟩, 63), (⟨"DoorSticksModel", "goMonth", "(I)V"⟩, 63), (⟨"DoorSticksModel", "nearer", "(IIZ)I"⟩, 63), (⟨"DoorSticksModel", "isWhere", "(II)Z"⟩, 63), (⟨"DoorSticksModel", "isSpot", "(I)Z"⟩, 63), (⟨"DoorSticksModel", "planes", "(III)I"⟩, 63), (⟨"DoorSticksModel", "packed", "(II)I"⟩, 63), (⟨"DoorSticksModel", "paints", "(II)I"⟩, 63), (⟨"DoorSticksModel", "keep", "()V"⟩, 63), (⟨"DoorSticksModel", "putBack", "()V"⟩, 63), (⟨"DoorSticksModel", "layGaps", "(III)V"⟩, 63), (⟨"DoorSticksModel", "offOf", "(II)I"⟩, 63)]
theorem lw_r4 : ∀ q ∈ lw_privs_4, lw_okq q := List.forall_mem_cons.mpr ⟨lw_p48, List.forall_mem_cons.mpr ⟨lw_p49, List.forall_mem_cons.mpr ⟨lw_p50, List.forall_mem_cons.mpr ⟨lw_p51, List.forall_mem_cons.mpr ⟨lw_p52, List.forall_mem_cons.mpr ⟨lw_p53, List.forall_mem_cons.mpr ⟨lw_p54, List.forall_mem_cons.mpr ⟨lw_p55, List.forall_mem_cons.mpr ⟨lw_p56, List.forall_mem_cons.mpr ⟨lw_p57, List.forall_mem_cons.mpr ⟨lw_p58, List.forall_mem_cons.mpr ⟨lw_p59, List.forall_mem_cons.mpr ⟨lw_p60, List.forall_mem_cons.mpr ⟨lw_p61, List.forall_mem_cons.mpr ⟨lw_p62, List.forall_mem_cons.mpr ⟨lw_p63, fun _ h => absurd h List.not_mem_nil⟩⟩⟩⟩⟩⟩⟩⟩⟩⟩⟩⟩⟩⟩⟩⟩
theorem lw_p64 : lw_okq (⟨"DoorSticksModel", "costOf", "(II)I"⟩, 63) := ⟨⟨by decide +kernel, by decide +kernel⟩, List.mem_of_getElem? (i := 895) (by decide +kernel), List.mem_of_getElem? (i := 1336) (by decide +kernel), List.mem_of_getElem? (i := 1337) (by decide +kernel)⟩
theorem lw_p65 : lw_okq (⟨"DoorSticksModel", "byTwelve", "(II)J"⟩, 63) := ⟨⟨by decide +kernel, by decide +kernel⟩, List.mem_of_getElem? (i := 895) (by decide +kernel), List.mem_of_getElem? (i := 1349) (by decide +kernel), List.mem_of_getElem? (i := 1350) (by decide +kernel)⟩
theorem lw_p66 : lw_okq (⟨"DoorSticksModel", "divisor", "(II)I"⟩, 63) := ⟨⟨by decide +kernel, by decide +kernel⟩, List.mem_of_getElem? (i := 895) (by decide +kernel), List.mem_of_getElem? (i := 1353) (by decide +kernel), List.mem_of_getElem? (i := 1354) (by decide +kernel)⟩
theorem lw_p67 : lw_okq (⟨"DoorSticksModel", "areChanged", "(II)Z"⟩, 63) := ⟨⟨by decide +kernel, by decide +kernel⟩, List.mem_of_getElem? (i := 895) (by decide +kernel), List.mem_of_getElem? (i := 1365) (by decide +kernel), List.mem_of_getElem? (i := 1366) (by decide +kernel)⟩
theorem lw_p68 : lw_okq (⟨"DoorSticksModel", "ones", "(I)I"⟩, 63) := ⟨⟨by decide +kernel, by decide +kernel⟩, List.mem_of_getElem? (i := 895) (by decide +kernel), List.mem_of_getElem? (i := 1369) (by decide +kernel), List.mem_of_getElem? (i := 1370) (by decide +kernel)⟩
theorem lw_p69 : lw_okq (⟨"DoorSticksModel", "swapCuts", "(II)V"⟩, 63) := ⟨⟨by decide +kernel, by decide +kernel⟩, List.mem_of_getElem? (i := 895) (by decide +kernel), List.mem_of_getElem? (i := 1373) (by decide +kernel), List.mem_of_getElem? (i := 1374) (by decide +kernel)⟩
theorem lw_p70 : lw_okq (⟨"DoorSticksModel", "isTape", "(I)Z"⟩, 63) := ⟨⟨by decide +kernel, by decide +kernel⟩, List.mem_of_getElem? (i := 895) (by decide +kernel), List.mem_of_getElem? (i := 1389) (by decide +kernel), List.mem_of_getElem? (i := 1390) (by decide +kernel)⟩
theorem lw_p71 : lw_okq (⟨"DoorSticksModel", "swellsAct", "(II)I"⟩, 63) := ⟨⟨by decide +kernel, by decide +kernel⟩, List.mem_of_getElem? (i := 895) (by decide +kernel), List.mem_of_getElem? (i := 1405) (by decide +kernel), List.mem_of_getElem? (i := 1406) (by decide +kernel)⟩
theorem lw_p72 : lw_okq (⟨"DoorSticksModel", "body", "(I)V"⟩, 63) := ⟨⟨by decide +kernel, by decide +kernel⟩, List.mem_of_getElem? (i := 895) (by decide +kernel), List.mem_of_getElem? (i := 1409) (by decide +kernel), List.mem_of_getElem? (i := 1410) (by decide +kernel)⟩
theorem lw_p73 : lw_okq (⟨"DoorSticksModel", "doorSwells", "(II)I"⟩, 63) := ⟨⟨by decide +kernel, by decide +kernel⟩, List.mem_of_getElem? (i := 895) (by decide +kernel), List.mem_of_getElem? (i := 1413) (by decide +kernel), List.mem_of_getElem? (i := 1414) (by decide +kernel)⟩
theorem lw_p74 : lw_okq (⟨"DoorSticksModel", "hangsAct", "(II)I"⟩, 63) := ⟨⟨by decide +kernel, by decide +kernel⟩, List.mem_of_getElem? (i := 895) (by decide +kernel), List.mem_of_getElem? (i := 1417) (by decide +kernel), List.mem_of_getElem? (i := 1418) (by decide +kernel)⟩
theorem lw_p75 : lw_okq (⟨"DoorSticksModel", "swollenHangs", "(II)I"⟩, 63) := ⟨⟨by decide +kernel, by decide +kernel⟩, List.mem_of_getElem? (i := 895) (by decide +kernel), List.mem_of_getElem? (i := 1421) (by decide +kernel), List.mem_of_getElem? (i := 1422) (by decide +kernel)⟩
theorem lw_p76 : lw_okq (⟨"DoorSticksModel", "doorHangs", "(II)I"⟩, 63) := ⟨⟨by decide +kernel, by decide +kernel⟩, List.mem_of_getElem? (i := 895) (by decide +kernel), List.mem_of_getElem? (i := 1425) (by decide +kernel), List.mem_of_getElem? (i := 1426) (by decide +kernel)⟩
theorem lw_p77 : lw_okq (⟨"DoorSticksModel", "tellsAct", "(II)I"⟩, 63) := ⟨⟨by decide +kernel, by decide +kernel⟩, List.mem_of_getElem? (i := 895) (by decide +kernel), List.mem_of_getElem? (i := 1429) (by decide +kernel), List.mem_of_getElem? (i := 1430) (by decide +kernel)⟩
theorem lw_p78 : lw_okq (⟨"DoorSticksModel", "doorTells", "(II)I"⟩, 63) := ⟨⟨by decide +kernel, by decide +kernel⟩, List.mem_of_getElem? (i := 895) (by decide +kernel), List.mem_of_getElem? (i := 1433) (by decide +kernel), List.mem_of_getElem? (i := 1434) (by decide +kernel)⟩
theorem lw_p79 : lw_okq (⟨"DoorSticksModel", "narrow", "(IJ)J"⟩, 63) := ⟨⟨by decide +kernel, by decide +kernel⟩, List.mem_of_getElem? (i := 895) (by decide +kernel), List.mem_of_getElem? (i := 1457) (by decide +kernel), List.mem_of_getElem? (i := 1458) (by decide +kernel)⟩
def lw_privs_5 : List (MethodName × Nat) := [(⟨"DoorSticksModel", "costOf", "(II)I"⟩, 63), (⟨"DoorSticksModel", "byTwelve", "(II)J"⟩, 63), (⟨"DoorSticksModel", "divisor", "(II)I"⟩, 63), (⟨"DoorSticksModel", "areChanged", "(II)Z"⟩, 63), (⟨"DoorSticksModel", "ones", "(I)I"⟩, 63), (⟨"DoorSticksModel", "swapCuts", "(II)V"⟩, 63), (⟨"DoorSticksModel", "isTape", "(I)Z"⟩, 63), (⟨"DoorSticksModel", "swellsAct", "(II)I"⟩, 63), (⟨"DoorSticksModel", "body", "(I)V"⟩, 63), (⟨"DoorSticksModel", "doorSwells", "(II)I"⟩, 63), (⟨"DoorSticksModel", "hangsAct", "(II)I"⟩, 63), (⟨"DoorSticksModel", "swollenHangs", "(II)I"⟩, 63), (⟨"DoorSticksModel", "doorHangs", "(II)I"⟩, 63), (⟨"DoorSticksModel", "tellsAct", "(II)I"⟩, 63), (⟨"DoorSticksModel", "doorTells", "(II)I"⟩, 63), (⟨"DoorSticksModel", "narrow", "(IJ)J"⟩, 63)]
theorem lw_r5 : ∀ q ∈ lw_privs_5, lw_okq q := List.forall_mem_cons.mpr ⟨lw_p64, List.forall_mem_cons.mpr ⟨lw_p65, List.forall_mem_cons.mpr ⟨lw_p66, List.forall_mem_cons.mpr ⟨lw_p67, List.forall_mem_cons.mpr ⟨lw_p68, List.forall_mem_cons.mpr ⟨lw_p69, List.forall_mem_cons.mpr ⟨lw_p70, List.forall_mem_cons.mpr ⟨lw_p71, List.forall_mem_cons.mpr ⟨lw_p72, List.forall_mem_cons.mpr ⟨lw_p73, List.forall_mem_cons.mpr ⟨lw_p74, List.forall_mem_cons.mpr ⟨lw_p75, List.forall_mem_cons.mpr ⟨lw_p76, List.forall_mem_cons.mpr ⟨lw_p77, List.forall_mem_cons.mpr ⟨lw_p78, List.forall_mem_cons.mpr ⟨lw_p79, fun _ h => absurd h List.not_mem_nil⟩⟩⟩⟩⟩⟩⟩⟩⟩⟩⟩⟩⟩⟩⟩⟩
def lw_privs : List (MethodName × Nat) := lw_privs_1 ++ (lw_privs_2 ++ (lw_privs_3 ++ (lw_privs_4 ++ (lw_privs_5))))
def lw_tbl : List Cond := k2_sels lw_privs ++ tables_1
theorem lw_privs_ok : ∀ q ∈ lw_privs, lw_okq q := by
  show ∀ q ∈ lw_privs_1 ++ (lw_privs_2 ++ (lw_privs_3 ++ (lw_privs_4 ++ (lw_privs_5)))), lw_okq q
  exact List.forall_mem_append.mpr ⟨lw_r1, List.forall_mem_append.mpr ⟨lw_r2, List.forall_mem_append.mpr ⟨lw_r3, List.forall_mem_append.mpr ⟨lw_r4, lw_r5⟩⟩⟩⟩
def RX0 : String := "DoorSticks$Acts"
def TX0 : u_T := fun k => match k with
  | 0 => ("DoorSticks$Acts", "kept", "[I", true)
  | 1 => ("DoorSticks$Acts", "ran", "I", false)
  | 2 => ("DoorSticks$Acts", "kind", "I", false)
  | 3 => ("DoorSticks$Acts", "v", "I", false)
  | _ => ("DoorSticks$Acts", "number", "I", false)
def tyX0 : Nat → FieldType := fun k => match k with
  | 0 => .array .int
  | 1 => .int
  | 2 => .int
  | 3 => .int
  | _ => .int
abbrev wsX00 : List Cond := u_ws RX0 TX0 5
theorem nmX0 : ∀ a, a < 5 → ∀ b, b < 5 → a ≠ b → (TX0 a).2.1 ≠ (TX0 b).2.1 := by decide +kernel
theorem tyX0_ok : ∀ k, k < 5 → parseFieldDescriptor (TX0 k).2.2.1 = some (tyX0 k) := by decide +kernel
abbrev cX0_init : ByteArray := prog_2_method_1_code
def yX0_init : MethodName := ⟨RX0, "<init>", "()V"⟩
abbrev cX0_forget : ByteArray := prog_2_method_2_code
def yX0_forget : MethodName := ⟨RX0, "forget", "()V"⟩
abbrev cX0_keptCount : ByteArray := prog_2_method_3_code
def yX0_keptCount : MethodName := ⟨RX0, "keptCount", "()I"⟩
abbrev cX0_perform : ByteArray := prog_2_method_4_code
def yX0_perform : MethodName := ⟨RX0, "perform", "(LDoorSticks$Door;II)I"⟩
abbrev cX0_began : ByteArray := prog_2_method_5_code
def yX0_began : MethodName := ⟨RX0, "began", "(I)V"⟩
abbrev cX0_above : ByteArray := prog_2_method_6_code
def yX0_above : MethodName := ⟨RX0, "above", "(I)I"⟩
abbrev cX0_swells : ByteArray := prog_2_method_7_code
def yX0_swells : MethodName := ⟨RX0, "swells", "(LDoorSticks$Acts;III)I"⟩
abbrev cX0_hangs : ByteArray := prog_2_method_8_code
def yX0_hangs : MethodName := ⟨RX0, "hangs", "(LDoorSticks$Acts;III)I"⟩
abbrev cX0_tells : ByteArray := prog_2_method_9_code
def yX0_tells : MethodName := ⟨RX0, "tells", "(LDoorSticks$Acts;III)I"⟩
def RX1 : String := "DoorSticks$Clause"
def TX1 : u_T := fun k => match k with
  | 0 => ("DoorSticks$Clause", "word", "I", true)
  | 1 => ("DoorSticks$Clause", "n", "I", true)
  | _ => ("DoorSticks$Clause", "code", "[I", true)
def tyX1 : Nat → FieldType := fun k => match k with
  | 0 => .int
  | 1 => .int
  | _ => .array .int
abbrev wsX10 : List Cond := u_ws RX1 TX1 3
theorem nmX1 : ∀ a, a < 3 → ∀ b, b < 3 → a ≠ b → (TX1 a).2.1 ≠ (TX1 b).2.1 := by decide +kernel
theorem tyX1_ok : ∀ k, k < 3 → parseFieldDescriptor (TX1 k).2.2.1 = some (tyX1 k) := by decide +kernel
abbrev cX1_init : ByteArray := prog_3_method_1_code
def yX1_init : MethodName := ⟨RX1, "<init>", "(II[I)V"⟩
abbrev cX1_codeOfTest : ByteArray := prog_3_method_2_code
def yX1_codeOfTest : MethodName := ⟨RX1, "codeOfTest", "(III)I"⟩
abbrev cX1_holds : ByteArray := prog_3_method_3_code
def yX1_holds : MethodName := ⟨RX1, "holds", "([I)Z"⟩
abbrev cX1_testHolds : ByteArray := prog_3_method_4_code
def yX1_testHolds : MethodName := ⟨RX1, "testHolds", "(I[I)Z"⟩
def RX2 : String := "DoorSticks$Course"
def TX2 : u_T := fun k => match k with
  | 0 => ("DoorSticks$Course", "house", "LDoorSticks$House;", false)
  | 1 => ("DoorSticks$Course", "door", "LDoorSticks$Door;", true)
  | 2 => ("DoorSticks$Course", "airs", "[I", true)
  | 3 => ("DoorSticks$Course", "month", "I", false)
  | 4 => ("DoorSticks$Course", "lean", "I", false)
  | 5 => ("DoorSticks$Course", "swell", "I", false)
  | 6 => ("DoorSticks$Course", "bend", "I", false)
  | 7 => ("DoorSticks$Course", "hang", "I", false)
  | 8 => ("DoorSticks$Course", "least", "[I", true)
  | _ => ("DoorSticks$Course", "greatest", "[I", true)
def tyX2 : Nat → FieldType := fun k => match k with
  | 0 => .object "DoorSticks$House"
  | 1 => .object "DoorSticks$Door"
  | 2 => .array .int
  | 3 => .int
  | 4 => .int
  | 5 => .int
  | 6 => .int
  | 7 => .int
  | 8 => .array .int
  | _ => .array .int
abbrev wsX20 : List Cond := u_ws RX2 TX2 10
theorem nmX2 : ∀ a, a < 10 → ∀ b, b < 10 → a ≠ b → (TX2 a).2.1 ≠ (TX2 b).2.1 := by decide +kernel
theorem tyX2_ok : ∀ k, k < 10 → parseFieldDescriptor (TX2 k).2.2.1 = some (tyX2 k) := by decide +kernel
abbrev cX2_init : ByteArray := prog_4_method_1_code
def yX2_init : MethodName := ⟨RX2, "<init>", "()V"⟩
abbrev cX2_begin : ByteArray := prog_4_method_2_code
def yX2_begin : MethodName := ⟨RX2, "begin", "(LDoorSticks$Door;LDoorSticks$Home;LDoorSticks$House;)V"⟩
abbrev cX2_settle : ByteArray := prog_4_method_3_code
def yX2_settle : MethodName := ⟨RX2, "settle", "()V"⟩
abbrev cX2_pass : ByteArray := prog_4_method_4_code
def yX2_pass : MethodName := ⟨RX2, "pass", "(I)V"⟩
abbrev cX2_goInAir : ByteArray := prog_4_method_5_code
def yX2_goInAir : MethodName := ⟨RX2, "goInAir", "(I)V"⟩
abbrev cX2_goOn : ByteArray := prog_4_method_6_code
def yX2_goOn : MethodName := ⟨RX2, "goOn", "(I)V"⟩
abbrev cX2_goThrough : ByteArray := prog_4_method_7_code
def yX2_goThrough : MethodName := ⟨RX2, "goThrough", "(I)V"⟩
abbrev cX2_gap : ByteArray := prog_4_method_8_code
def yX2_gap : MethodName := ⟨RX2, "gap", "(I)I"⟩
abbrev cX2_firstRubbing : ByteArray := prog_4_method_9_code
def yX2_firstRubbing : MethodName := ⟨RX2, "firstRubbing", "()I"⟩
abbrev cX2_rubbing : ByteArray := prog_4_method_10_code
def yX2_rubbing : MethodName := ⟨RX2, "rubbing", "()I"⟩
abbrev cX2_draughty : ByteArray := prog_4_method_11_code
def yX2_draughty : MethodName := ⟨RX2, "draughty", "()I"⟩
abbrev cX2_rubsWith : ByteArray := prog_4_method_12_code
def yX2_rubsWith : MethodName := ⟨RX2, "rubsWith", "([I)I"⟩
abbrev cX2_missing : ByteArray := prog_4_method_13_code
def yX2_missing : MethodName := ⟨RX2, "missing", "(I)I"⟩
abbrev cX2_missingSpots : ByteArray := prog_4_method_14_code
def yX2_missingSpots : MethodName := ⟨RX2, "missingSpots", "()I"⟩
abbrev cX2_fitsWhenCut : ByteArray := prog_4_method_15_code
def yX2_fitsWhenCut : MethodName := ⟨RX2, "fitsWhenCut", "()Z"⟩
def RX3 : String := "DoorSticks$Door"
def TX3 : u_T := fun k => match k with
  | 0 => ("DoorSticks$Door", "number", "I", false)
  | 1 => ("DoorSticks$Door", "kind", "I", false)
  | 2 => ("DoorSticks$Door", "v", "I", false)
  | 3 => ("DoorSticks$Door", "sag", "I", false)
  | 4 => ("DoorSticks$Door", "pack", "I", false)
  | 5 => ("DoorSticks$Door", "waters", "[I", true)
  | 6 => ("DoorSticks$Door", "paints", "[I", true)
  | 7 => ("DoorSticks$Door", "cuts", "[I", true)
  | _ => ("DoorSticks$Door", "facts", "[I", true)
def tyX3 : Nat → FieldType := fun k => match k with
  | 0 => .int
  | 1 => .int
  | 2 => .int
  | 3 => .int
  | 4 => .int
  | 5 => .array .int
  | 6 => .array .int
  | 7 => .array .int
  | _ => .array .int
abbrev wsX30 : List Cond := u_ws RX3 TX3 9
theorem nmX3 : ∀ a, a < 9 → ∀ b, b < 9 → a ≠ b → (TX3 a).2.1 ≠ (TX3 b).2.1 := by decide +kernel
theorem tyX3_ok : ∀ k, k < 9 → parseFieldDescriptor (TX3 k).2.2.1 = some (tyX3 k) := by decide +kernel
abbrev cX3_init : ByteArray := prog_5_method_1_code
def yX3_init : MethodName := ⟨RX3, "<init>", "()V"⟩
abbrev cX3_begin : ByteArray := prog_5_method_2_code
def yX3_begin : MethodName := ⟨RX3, "begin", "(III)V"⟩
abbrev cX3_become : ByteArray := prog_5_method_3_code
def yX3_become : MethodName := ⟨RX3, "become", "(LDoorSticks$Door;)V"⟩
abbrev cX3_dampness : ByteArray := prog_5_method_4_code
def yX3_dampness : MethodName := ⟨RX3, "dampness", "()I"⟩
abbrev cX3_factsIn : ByteArray := prog_5_method_5_code
def yX3_factsIn : MethodName := ⟨RX3, "factsIn", "(I)[I"⟩
abbrev cX3_swell : ByteArray := prog_5_method_6_code
def yX3_swell : MethodName := ⟨RX3, "swell", "(I)I"⟩
abbrev cX3_bend : ByteArray := prog_5_method_7_code
def yX3_bend : MethodName := ⟨RX3, "bend", "()I"⟩
abbrev cX3_hang : ByteArray := prog_5_method_8_code
def yX3_hang : MethodName := ⟨RX3, "hang", "(I)I"⟩
abbrev cX3_takeUp : ByteArray := prog_5_method_9_code
def yX3_takeUp : MethodName := ⟨RX3, "takeUp", "(I)V"⟩
abbrev cX3_drawOut : ByteArray := prog_5_method_10_code
def yX3_drawOut : MethodName := ⟨RX3, "drawOut", "(I)V"⟩
abbrev cX3_cutMore : ByteArray := prog_5_method_11_code
def yX3_cutMore : MethodName := ⟨RX3, "cutMore", "(II)I"⟩
abbrev cX3_packMore : ByteArray := prog_5_method_12_code
def yX3_packMore : MethodName := ⟨RX3, "packMore", "(I)I"⟩
abbrev cX3_driveScrews : ByteArray := prog_5_method_13_code
def yX3_driveScrews : MethodName := ⟨RX3, "driveScrews", "()I"⟩
abbrev cX3_paintSide : ByteArray := prog_5_method_14_code
def yX3_paintSide : MethodName := ⟨RX3, "paintSide", "(I)I"⟩
def RX4 : String := "DoorSticks$Home"
def TX4 : u_T := fun k => match k with
  | 0 => ("DoorSticks$Home", "airs", "[I", true)
  | 1 => ("DoorSticks$Home", "doors", "[LDoorSticks$Door;", true)
  | 2 => ("DoorSticks$Home", "doorCount", "I", false)
  | 3 => ("DoorSticks$Home", "lean", "I", false)
  | 4 => ("DoorSticks$Home", "month", "I", false)
  | 5 => ("DoorSticks$Home", "holding", "I", false)
  | 6 => ("DoorSticks$Home", "rowSpots", "[I", true)
  | 7 => ("DoorSticks$Home", "rowGaps", "[I", true)
  | _ => ("DoorSticks$Home", "rowCount", "I", false)
def tyX4 : Nat → FieldType := fun k => match k with
  | 0 => .array .int
  | 1 => .array (.object "DoorSticks$Door")
  | 2 => .int
  | 3 => .int
  | 4 => .int
  | 5 => .int
  | 6 => .array .int
  | 7 => .array .int
  | _ => .int
abbrev wsX40 : List Cond := u_ws RX4 TX4 9
theorem nmX4 : ∀ a, a < 9 → ∀ b, b < 9 → a ≠ b → (TX4 a).2.1 ≠ (TX4 b).2.1 := by decide +kernel
theorem tyX4_ok : ∀ k, k < 9 → parseFieldDescriptor (TX4 k).2.2.1 = some (tyX4 k) := by decide +kernel
abbrev cX4_init : ByteArray := prog_6_method_1_code
def yX4_init : MethodName := ⟨RX4, "<init>", "()V"⟩
abbrev cX4_become : ByteArray := prog_6_method_2_code
def yX4_become : MethodName := ⟨RX4, "become", "(LDoorSticks$Home;)V"⟩
def RX5 : String := "DoorSticks$House"
def TX5 : u_T := fun k => match k with
  | 0 => ("DoorSticks$House", "clauses", "[LDoorSticks$Clause;", true)
  | 1 => ("DoorSticks$House", "tellsSwell", "Z", true)
  | 2 => ("DoorSticks$House", "sink", "I", true)
  | _ => ("DoorSticks$House", "draught", "I", true)
def tyX5 : Nat → FieldType := fun k => match k with
  | 0 => .array (.object "DoorSticks$Clause")
  | 1 => .boolean
  | 2 => .int
  | _ => .int
abbrev wsX50 : List Cond := u_ws RX5 TX5 4
theorem nmX5 : ∀ a, a < 4 → ∀ b, b < 4 → a ≠ b → (TX5 a).2.1 ≠ (TX5 b).2.1 := by decide +kernel
theorem tyX5_ok : ∀ k, k < 4 → parseFieldDescriptor (TX5 k).2.2.1 = some (tyX5 k) := by decide +kernel
abbrev cX5_init : ByteArray := prog_7_method_1_code
def yX5_init : MethodName := ⟨RX5, "<init>", "([LDoorSticks$Clause;)V"⟩
abbrev cX5_total : ByteArray := prog_7_method_2_code
def yX5_total : MethodName := ⟨RX5, "total", "(I[I)I"⟩
def RX6 : String := "DoorSticks$HouseText"
def TX6 : u_T := fun k => match k with
  | 0 => ("DoorSticks$HouseText", "length", "I", false)
  | 1 => ("DoorSticks$HouseText", "signs", "[I", true)
  | 2 => ("DoorSticks$HouseText", "at", "I", false)
  | 3 => ("DoorSticks$HouseText", "clauses", "[LDoorSticks$Clause;", true)
  | 4 => ("DoorSticks$HouseText", "clauseCount", "I", false)
  | 5 => ("DoorSticks$HouseText", "code", "[I", true)
  | _ => ("DoorSticks$HouseText", "codeLength", "I", false)
def tyX6 : Nat → FieldType := fun k => match k with
  | 0 => .int
  | 1 => .array .int
  | 2 => .int
  | 3 => .array (.object "DoorSticks$Clause")
  | 4 => .int
  | 5 => .array .int
  | _ => .int
abbrev wsX60 : List Cond := u_ws RX6 TX6 7
theorem nmX6 : ∀ a, a < 7 → ∀ b, b < 7 → a ≠ b → (TX6 a).2.1 ≠ (TX6 b).2.1 := by decide +kernel
theorem tyX6_ok : ∀ k, k < 7 → parseFieldDescriptor (TX6 k).2.2.1 = some (tyX6 k) := by decide +kernel
abbrev cX6_init : ByteArray := prog_8_method_1_code
def yX6_init : MethodName := ⟨RX6, "<init>", "()V"⟩
abbrev cX6_append : ByteArray := prog_8_method_2_code
def yX6_append : MethodName := ⟨RX6, "append", "(I)Z"⟩
abbrev cX6_parse : ByteArray := prog_8_method_3_code
def yX6_parse : MethodName := ⟨RX6, "parse", "()I"⟩
abbrev cX6_built : ByteArray := prog_8_method_4_code
def yX6_built : MethodName := ⟨RX6, "built", "()LDoorSticks$House;"⟩
abbrev cX6_takesAnyOf : ByteArray := prog_8_method_5_code
def yX6_takesAnyOf : MethodName := ⟨RX6, "takesAnyOf", "(I)Z"⟩
abbrev cX6_takesAllOf : ByteArray := prog_8_method_6_code
def yX6_takesAllOf : MethodName := ⟨RX6, "takesAllOf", "(I)Z"⟩
abbrev cX6_takesFactor : ByteArray := prog_8_method_7_code
def yX6_takesFactor : MethodName := ⟨RX6, "takesFactor", "(I)Z"⟩
abbrev cX6_takesTest : ByteArray := prog_8_method_8_code
def yX6_takesTest : MethodName := ⟨RX6, "takesTest", "()Z"⟩
abbrev cX6_addCode : ByteArray := prog_8_method_9_code
def yX6_addCode : MethodName := ⟨RX6, "addCode", "(I)V"⟩
abbrev cX6_takes : ByteArray := prog_8_method_10_code
def yX6_takes : MethodName := ⟨RX6, "takes", "(C)Z"⟩
abbrev cX6_takenOneOf : ByteArray := prog_8_method_11_code
def yX6_takenOneOf : MethodName := ⟨RX6, "takenOneOf", "(Ljava/lang/String;)I"⟩
abbrev cX6_takenNumber : ByteArray := prog_8_method_12_code
def yX6_takenNumber : MethodName := ⟨RX6, "takenNumber", "()I"⟩
abbrev cX6_takenWord : ByteArray := prog_8_method_13_code
def yX6_takenWord : MethodName := ⟨RX6, "takenWord", "()I"⟩
abbrev cX6_alikeWith : ByteArray := prog_8_method_14_code
def yX6_alikeWith : MethodName := ⟨RX6, "alikeWith", "(Ljava/lang/String;)I"⟩
abbrev cX6_wordOf : ByteArray := prog_8_method_15_code
def yX6_wordOf : MethodName := ⟨RX6, "wordOf", "(I)Ljava/lang/String;"⟩
def RX7 : String := "DoorSticks$Tape"
def TX7 : u_T := fun k => match k with
  | 0 => ("DoorSticks$Tape", "sort", "I", false)
  | 1 => ("DoorSticks$Tape", "length", "I", false)
  | _ => ("DoorSticks$Tape", "items", "[J", true)
def tyX7 : Nat → FieldType := fun k => match k with
  | 0 => .int
  | 1 => .int
  | _ => .array .long
abbrev wsX70 : List Cond := u_ws RX7 TX7 3
theorem nmX7 : ∀ a, a < 3 → ∀ b, b < 3 → a ≠ b → (TX7 a).2.1 ≠ (TX7 b).2.1 := by decide +kernel
theorem tyX7_ok : ∀ k, k < 3 → parseFieldDescriptor (TX7 k).2.2.1 = some (tyX7 k) := by decide +kernel
abbrev cX7_init : ByteArray := prog_9_method_1_code
def yX7_init : MethodName := ⟨RX7, "<init>", "()V"⟩
abbrev cX7_becomeRow : ByteArray := prog_9_method_2_code
def yX7_becomeRow : MethodName := ⟨RX7, "becomeRow", "(II)V"⟩
abbrev cX7_hasPlace : ByteArray := prog_9_method_3_code
def yX7_hasPlace : MethodName := ⟨RX7, "hasPlace", "(I)Z"⟩
abbrev cX7_hasPlaces : ByteArray := prog_9_method_4_code
def yX7_hasPlaces : MethodName := ⟨RX7, "hasPlaces", "(II)Z"⟩
abbrev cX7_narrowed : ByteArray := prog_9_method_5_code
def yX7_narrowed : MethodName := ⟨RX7, "narrowed", "(J)J"⟩
def RX8 : String := "DoorSticks"
def TX8 : u_T := fun k => match k with
  | 0 => ("DoorSticks", "home", "LDoorSticks$Home;", true)
  | 1 => ("DoorSticks", "picture", "LDoorSticks$Home;", true)
  | 2 => ("DoorSticks", "pictured", "Z", false)
  | 3 => ("DoorSticks", "text", "LDoorSticks$HouseText;", true)
  | 4 => ("DoorSticks", "bare", "LDoorSticks$House;", true)
  | 5 => ("DoorSticks", "houses", "[LDoorSticks$House;", true)
  | 6 => ("DoorSticks", "houseCount", "I", false)
  | 7 => ("DoorSticks", "course", "LDoorSticks$Course;", true)
  | 8 => ("DoorSticks", "otherCourse", "LDoorSticks$Course;", true)
  | 9 => ("DoorSticks", "acts", "LDoorSticks$Acts;", true)
  | _ => ("DoorSticks", "tapes", "[LDoorSticks$Tape;", true)
def tyX8 : Nat → FieldType := fun k => match k with
  | 0 => .object "DoorSticks$Home"
  | 1 => .object "DoorSticks$Home"
  | 2 => .boolean
  | 3 => .object "DoorSticks$HouseText"
  | 4 => .object "DoorSticks$House"
  | 5 => .array (.object "DoorSticks$House")
  | 6 => .int
  | 7 => .object "DoorSticks$Course"
  | 8 => .object "DoorSticks$Course"
  | 9 => .object "DoorSticks$Acts"
  | _ => .array (.object "DoorSticks$Tape")
abbrev wsX80 : List Cond := u_ws RX8 TX8 11
theorem nmX8 : ∀ a, a < 11 → ∀ b, b < 11 → a ≠ b → (TX8 a).2.1 ≠ (TX8 b).2.1 := by decide +kernel
theorem tyX8_ok : ∀ k, k < 11 → parseFieldDescriptor (TX8 k).2.2.1 = some (tyX8 k) := by decide +kernel
abbrev cX8_init : ByteArray := prog_1_method_1_code
def yX8_init : MethodName := ⟨RX8, "<init>", "()V"⟩
abbrev cX8_air : ByteArray := prog_1_method_2_code
def yX8_air : MethodName := ⟨RX8, "air", "(II)I"⟩
abbrev cX8_lean : ByteArray := prog_1_method_3_code
def yX8_lean : MethodName := ⟨RX8, "lean", "(I)I"⟩
abbrev cX8_door : ByteArray := prog_1_method_4_code
def yX8_door : MethodName := ⟨RX8, "door", "(II)I"⟩
abbrev cX8_of : ByteArray := prog_1_method_5_code
def yX8_of : MethodName := ⟨RX8, "of", "(II)I"⟩
abbrev cX8_water : ByteArray := prog_1_method_6_code
def yX8_water : MethodName := ⟨RX8, "water", "(III)I"⟩
abbrev cX8_sag : ByteArray := prog_1_method_7_code
def yX8_sag : MethodName := ⟨RX8, "sag", "(II)I"⟩
abbrev cX8_feed : ByteArray := prog_1_method_8_code
def yX8_feed : MethodName := ⟨RX8, "feed", "(I)I"⟩
abbrev cX8_house : ByteArray := prog_1_method_9_code
def yX8_house : MethodName := ⟨RX8, "house", "()I"⟩
abbrev cX8_told : ByteArray := prog_1_method_10_code
def yX8_told : MethodName := ⟨RX8, "told", "(I)I"⟩
abbrev cX8_month : ByteArray := prog_1_method_11_code
def yX8_month : MethodName := ⟨RX8, "month", "()I"⟩
abbrev cX8_mend : ByteArray := prog_1_method_12_code
def yX8_mend : MethodName := ⟨RX8, "mend", "(IIII)I"⟩
abbrev cX8_run : ByteArray := prog_1_method_13_code
def yX8_run : MethodName := ⟨RX8, "run", "(III)I"⟩
abbrev cX8_first : ByteArray := prog_1_method_14_code
def yX8_first : MethodName := ⟨RX8, "first", "(II)I"⟩
abbrev cX8_worst : ByteArray := prog_1_method_15_code
def yX8_worst : MethodName := ⟨RX8, "worst", "(IIII)I"⟩
abbrev cX8_off : ByteArray := prog_1_method_16_code
def yX8_off : MethodName := ⟨RX8, "off", "(II)I"⟩
abbrev cX8_cheapest : ByteArray := prog_1_method_17_code
def yX8_cheapest : MethodName := ⟨RX8, "cheapest", "(II)I"⟩
abbrev cX8_why : ByteArray := prog_1_method_18_code
def yX8_why : MethodName := ⟨RX8, "why", "(II)I"⟩
abbrev cX8_odds : ByteArray := prog_1_method_19_code
def yX8_odds : MethodName := ⟨RX8, "odds", "(II)J"⟩
abbrev cX8_mean : ByteArray := prog_1_method_20_code
def yX8_mean : MethodName := ⟨RX8, "mean", "(III)J"⟩
abbrev cX8_changed : ByteArray := prog_1_method_21_code
def yX8_changed : MethodName := ⟨RX8, "changed", "(I)I"⟩
abbrev cX8_book : ByteArray := prog_1_method_22_code
def yX8_book : MethodName := ⟨RX8, "book", "(II)I"⟩
abbrev cX8_looked : ByteArray := prog_1_method_23_code
def yX8_looked : MethodName := ⟨RX8, "looked", "(II)I"⟩
abbrev cX8_judge : ByteArray := prog_1_method_24_code
def yX8_judge : MethodName := ⟨RX8, "judge", "(III)I"⟩
abbrev cX8_image : ByteArray := prog_1_method_25_code
def yX8_image : MethodName := ⟨RX8, "image", "()I"⟩
abbrev cX8_undo : ByteArray := prog_1_method_26_code
def yX8_undo : MethodName := ⟨RX8, "undo", "()I"⟩
abbrev cX8_act : ByteArray := prog_1_method_27_code
def yX8_act : MethodName := ⟨RX8, "act", "(III)I"⟩
abbrev cX8_trace : ByteArray := prog_1_method_28_code
def yX8_trace : MethodName := ⟨RX8, "trace", "(I)I"⟩
abbrev cX8_taken : ByteArray := prog_1_method_29_code
def yX8_taken : MethodName := ⟨RX8, "taken", "(II)I"⟩
abbrev cX8_count : ByteArray := prog_1_method_30_code
def yX8_count : MethodName := ⟨RX8, "count", "(I)I"⟩
abbrev cX8_tape : ByteArray := prog_1_method_31_code
def yX8_tape : MethodName := ⟨RX8, "tape", "(III)I"⟩
abbrev cX8_item : ByteArray := prog_1_method_32_code
def yX8_item : MethodName := ⟨RX8, "item", "(IIJ)I"⟩
abbrev cX8_read : ByteArray := prog_1_method_33_code
def yX8_read : MethodName := ⟨RX8, "read", "(II)J"⟩
abbrev cX8_shift : ByteArray := prog_1_method_34_code
def yX8_shift : MethodName := ⟨RX8, "shift", "(IIIII)I"⟩
abbrev cX8_within : ByteArray := prog_1_method_35_code
def yX8_within : MethodName := ⟨RX8, "within", "(III)Z"⟩
abbrev cX8_isSpot : ByteArray := prog_1_method_36_code
def yX8_isSpot : MethodName := ⟨RX8, "isSpot", "(I)Z"⟩
abbrev cX8_isPlaceOfMend : ByteArray := prog_1_method_37_code
def yX8_isPlaceOfMend : MethodName := ⟨RX8, "isPlaceOfMend", "(II)Z"⟩
abbrev cX8_isUnder : ByteArray := prog_1_method_38_code
def yX8_isUnder : MethodName := ⟨RX8, "isUnder", "(II)Z"⟩
abbrev cX8_sunk : ByteArray := prog_1_method_39_code
def yX8_sunk : MethodName := ⟨RX8, "sunk", "(III)I"⟩
abbrev cX8_takenUp : ByteArray := prog_1_method_40_code
def yX8_takenUp : MethodName := ⟨RX8, "takenUp", "(IIIIII)I"⟩
abbrev cX8_partOfTwelfths : ByteArray := prog_1_method_41_code
def yX8_partOfTwelfths : MethodName := ⟨RX8, "partOfTwelfths", "(II)J"⟩
abbrev cX8_doorAt : ByteArray := prog_1_method_42_code
def yX8_doorAt : MethodName := ⟨RX8, "doorAt", "(I)LDoorSticks$Door;"⟩
abbrev cX8_tapeAt : ByteArray := prog_1_method_43_code
def yX8_tapeAt : MethodName := ⟨RX8, "tapeAt", "(I)LDoorSticks$Tape;"⟩
abbrev cX8_holdingHouse : ByteArray := prog_1_method_44_code
def yX8_holdingHouse : MethodName := ⟨RX8, "holdingHouse", "()LDoorSticks$House;"⟩
abbrev cX8_courseNow : ByteArray := prog_1_method_45_code
def yX8_courseNow : MethodName := ⟨RX8, "courseNow", "(LDoorSticks$Door;)LDoorSticks$Course;"⟩
abbrev cX8_costOf : ByteArray := prog_1_method_46_code
def yX8_costOf : MethodName := ⟨RX8, "costOf", "(LDoorSticks$Door;I)I"⟩
abbrev cX8_rubsLessChanged : ByteArray := prog_1_method_47_code
def yX8_rubsLessChanged : MethodName := ⟨RX8, "rubsLessChanged", "(LDoorSticks$Door;LDoorSticks$Door;)Z"⟩
def RX9 : String := "DoorSticksModel"
def TX9 : u_T := fun k => match k with
  | 0 => ("DoorSticksModel", "airs", "[I", true)
  | 1 => ("DoorSticksModel", "doors", "I", false)
  | 2 => ("DoorSticksModel", "leaning", "I", false)
  | 3 => ("DoorSticksModel", "now", "I", false)
  | 4 => ("DoorSticksModel", "kind", "[I", true)
  | 5 => ("DoorSticksModel", "v", "[I", true)
  | 6 => ("DoorSticksModel", "inner", "[I", true)
  | 7 => ("DoorSticksModel", "outer", "[I", true)
  | 8 => ("DoorSticksModel", "paint", "[I", true)
  | 9 => ("DoorSticksModel", "sags", "[I", true)
  | 10 => ("DoorSticksModel", "packs", "[I", true)
  | 11 => ("DoorSticksModel", "cuts", "[I", true)
  | 12 => ("DoorSticksModel", "houses", "I", false)
  | 13 => ("DoorSticksModel", "the", "I", false)
  | 14 => ("DoorSticksModel", "fed", "I", false)
  | 15 => ("DoorSticksModel", "at", "I", false)
  | 16 => ("DoorSticksModel", "digits", "I", false)
  | 17 => ("DoorSticksModel", "text", "[I", true)
  | 18 => ("DoorSticksModel", "clauses", "[I", true)
  | 19 => ("DoorSticksModel", "word", "[I", true)
  | 20 => ("DoorSticksModel", "number", "[I", true)
  | 21 => ("DoorSticksModel", "from", "[I", true)
  | 22 => ("DoorSticksModel", "to", "[I", true)
  | 23 => ("DoorSticksModel", "sign", "[I", true)
  | 24 => ("DoorSticksModel", "waits", "[I", true)
  | 25 => ("DoorSticksModel", "signs", "I", false)
  | 26 => ("DoorSticksModel", "waiting", "I", false)
  | 27 => ("DoorSticksModel", "open", "I", false)
  | 28 => ("DoorSticksModel", "letters", "[I", true)
  | 29 => ("DoorSticksModel", "pile", "[Z", true)
  | 30 => ("DoorSticksModel", "keptInner", "[I", true)
  | 31 => ("DoorSticksModel", "keptOuter", "[I", true)
  | 32 => ("DoorSticksModel", "keptSags", "[I", true)
  | 33 => ("DoorSticksModel", "keptLeaning", "I", false)
  | 34 => ("DoorSticksModel", "keptNow", "I", false)
  | 35 => ("DoorSticksModel", "leastGap", "I", false)
  | 36 => ("DoorSticksModel", "greatestGap", "I", false)
  | 37 => ("DoorSticksModel", "books", "I", false)
  | 38 => ("DoorSticksModel", "bookSpot", "[I", true)
  | 39 => ("DoorSticksModel", "bookGap", "[I", true)
  | 40 => ("DoorSticksModel", "hasImage", "Z", false)
  | 41 => ("DoorSticksModel", "imageThe", "I", false)
  | 42 => ("DoorSticksModel", "imageDoors", "I", false)
  | 43 => ("DoorSticksModel", "imageLeaning", "I", false)
  | 44 => ("DoorSticksModel", "imageNow", "I", false)
  | 45 => ("DoorSticksModel", "imageBooks", "I", false)
  | 46 => ("DoorSticksModel", "imageAirs", "[I", true)
  | 47 => ("DoorSticksModel", "imageKind", "[I", true)
  | 48 => ("DoorSticksModel", "imageV", "[I", true)
  | 49 => ("DoorSticksModel", "imageInner", "[I", true)
  | 50 => ("DoorSticksModel", "imageOuter", "[I", true)
  | 51 => ("DoorSticksModel", "imagePaint", "[I", true)
  | 52 => ("DoorSticksModel", "imageSags", "[I", true)
  | 53 => ("DoorSticksModel", "imagePacks", "[I", true)
  | 54 => ("DoorSticksModel", "imageCuts", "[I", true)
  | 55 => ("DoorSticksModel", "imageSpot", "[I", true)
  | 56 => ("DoorSticksModel", "imageGap", "[I", true)
  | 57 => ("DoorSticksModel", "ran", "I", false)
  | 58 => ("DoorSticksModel", "bodies", "[I", true)
  | 59 => ("DoorSticksModel", "sort", "[I", true)
  | 60 => ("DoorSticksModel", "length", "[I", true)
  | 61 => ("DoorSticksModel", "item", "[J", true)
  | _ => ("DoorSticksModel", "aside", "[J", true)
def tyX9 : Nat → FieldType := fun k => match k with
  | 0 => .array .int
  | 1 => .int
  | 2 => .int
  | 3 => .int
  | 4 => .array .int
  | 5 => .array .int
  | 6 => .array .int
  | 7 => .array .int
  | 8 => .array .int
  | 9 => .array .int
  | 10 => .array .int
  | 11 => .array .int
  | 12 => .int
  | 13 => .int
  | 14 => .int
  | 15 => .int
  | 16 => .int
  | 17 => .array .int
  | 18 => .array .int
  | 19 => .array .int
  | 20 => .array .int
  | 21 => .array .int
  | 22 => .array .int
  | 23 => .array .int
  | 24 => .array .int
  | 25 => .int
  | 26 => .int
  | 27 => .int
  | 28 => .array .int
  | 29 => .array .boolean
  | 30 => .array .int
  | 31 => .array .int
  | 32 => .array .int
  | 33 => .int
  | 34 => .int
  | 35 => .int
  | 36 => .int
  | 37 => .int
  | 38 => .array .int
  | 39 => .array .int
  | 40 => .boolean
  | 41 => .int
  | 42 => .int
  | 43 => .int
  | 44 => .int
  | 45 => .int
  | 46 => .array .int
  | 47 => .array .int
  | 48 => .array .int
  | 49 => .array .int
  | 50 => .array .int
  | 51 => .array .int
  | 52 => .array .int
  | 53 => .array .int
  | 54 => .array .int
  | 55 => .array .int
  | 56 => .array .int
  | 57 => .int
  | 58 => .array .int
  | 59 => .array .int
  | 60 => .array .int
  | 61 => .array .long
  | _ => .array .long
abbrev wsX90 : List Cond := u_ws RX9 TX9 63
theorem nmX9 : ∀ a, a < 63 → ∀ b, b < 63 → a ≠ b → (TX9 a).2.1 ≠ (TX9 b).2.1 := by decide +kernel
theorem tyX9_ok : ∀ k, k < 63 → parseFieldDescriptor (TX9 k).2.2.1 = some (tyX9 k) := by decide +kernel
abbrev cX9_init : ByteArray := prog_11_method_1_code
def yX9_init : MethodName := ⟨RX9, "<init>", "()V"⟩
abbrev cX9_in : ByteArray := prog_11_method_2_code
def yX9_in : MethodName := ⟨RX9, "in", "(III)Z"⟩
abbrev cX9_isDoor : ByteArray := prog_11_method_3_code
def yX9_isDoor : MethodName := ⟨RX9, "isDoor", "(I)Z"⟩
abbrev cX9_isSpot : ByteArray := prog_11_method_4_code
def yX9_isSpot : MethodName := ⟨RX9, "isSpot", "(I)Z"⟩
abbrev cX9_air : ByteArray := prog_11_method_5_code
def yX9_air : MethodName := ⟨RX9, "air", "(II)I"⟩
abbrev cX9_lean : ByteArray := prog_11_method_6_code
def yX9_lean : MethodName := ⟨RX9, "lean", "(I)I"⟩
abbrev cX9_door : ByteArray := prog_11_method_7_code
def yX9_door : MethodName := ⟨RX9, "door", "(II)I"⟩
abbrev cX9_water : ByteArray := prog_11_method_8_code
def yX9_water : MethodName := ⟨RX9, "water", "(III)I"⟩
abbrev cX9_sag : ByteArray := prog_11_method_9_code
def yX9_sag : MethodName := ⟨RX9, "sag", "(II)I"⟩
abbrev cX9_feed : ByteArray := prog_11_method_10_code
def yX9_feed : MethodName := ⟨RX9, "feed", "(I)I"⟩
abbrev cX9_next : ByteArray := prog_11_method_11_code
def yX9_next : MethodName := ⟨RX9, "next", "()I"⟩
abbrev cX9_second : ByteArray := prog_11_method_12_code
def yX9_second : MethodName := ⟨RX9, "second", "()I"⟩
abbrev cX9_takes : ByteArray := prog_11_method_13_code
def yX9_takes : MethodName := ⟨RX9, "takes", "(I)Z"⟩
abbrev cX9_takesWord : ByteArray := prog_11_method_14_code
def yX9_takesWord : MethodName := ⟨RX9, "takesWord", "(II)Z"⟩
abbrev cX9_isDigit : ByteArray := prog_11_method_15_code
def yX9_isDigit : MethodName := ⟨RX9, "isDigit", "()Z"⟩
abbrev cX9_takesNumber : ByteArray := prog_11_method_16_code
def yX9_takesNumber : MethodName := ⟨RX9, "takesNumber", "()Z"⟩
abbrev cX9_put : ByteArray := prog_11_method_17_code
def yX9_put : MethodName := ⟨RX9, "put", "(I)V"⟩
abbrev cX9_whole : ByteArray := prog_11_method_18_code
def yX9_whole : MethodName := ⟨RX9, "whole", "()V"⟩
abbrev cX9_settle : ByteArray := prog_11_method_19_code
def yX9_settle : MethodName := ⟨RX9, "settle", "(I)V"⟩
abbrev cX9_place : ByteArray := prog_11_method_20_code
def yX9_place : MethodName := ⟨RX9, "place", "(I)I"⟩
abbrev cX9_takesTest : ByteArray := prog_11_method_21_code
def yX9_takesTest : MethodName := ⟨RX9, "takesTest", "()Z"⟩
abbrev cX9_takesE : ByteArray := prog_11_method_22_code
def yX9_takesE : MethodName := ⟨RX9, "takesE", "(I)Z"⟩
abbrev cX9_third : ByteArray := prog_11_method_23_code
def yX9_third : MethodName := ⟨RX9, "third", "()I"⟩
abbrev cX9_fourth : ByteArray := prog_11_method_24_code
def yX9_fourth : MethodName := ⟨RX9, "fourth", "()I"⟩
abbrev cX9_takesHead : ByteArray := prog_11_method_25_code
def yX9_takesHead : MethodName := ⟨RX9, "takesHead", "(I)Z"⟩
abbrev cX9_takesClause : ByteArray := prog_11_method_26_code
def yX9_takesClause : MethodName := ⟨RX9, "takesClause", "(I)Z"⟩
abbrev cX9_goesText : ByteArray := prog_11_method_27_code
def yX9_goesText : MethodName := ⟨RX9, "goesText", "(I)Z"⟩
abbrev cX9_house : ByteArray := prog_11_method_28_code
def yX9_house : MethodName := ⟨RX9, "house", "()I"⟩
abbrev cX9_begin : ByteArray := prog_11_method_29_code
def yX9_begin : MethodName := ⟨RX9, "begin", "()I"⟩
abbrev cX9_behind : ByteArray := prog_11_method_30_code
def yX9_behind : MethodName := ⟨RX9, "behind", "()I"⟩
abbrev cX9_lastOf : ByteArray := prog_11_method_31_code
def yX9_lastOf : MethodName := ⟨RX9, "lastOf", "(II)I"⟩
abbrev cX9_hasSwell : ByteArray := prog_11_method_32_code
def yX9_hasSwell : MethodName := ⟨RX9, "hasSwell", "()Z"⟩
abbrev cX9_factOf : ByteArray := prog_11_method_33_code
def yX9_factOf : MethodName := ⟨RX9, "factOf", "(II)I"⟩
abbrev cX9_holds : ByteArray := prog_11_method_34_code
def yX9_holds : MethodName := ⟨RX9, "holds", "(II)Z"⟩
abbrev cX9_sumOf : ByteArray := prog_11_method_35_code
def yX9_sumOf : MethodName := ⟨RX9, "sumOf", "(II)I"⟩
abbrev cX9_swellOf : ByteArray := prog_11_method_36_code
def yX9_swellOf : MethodName := ⟨RX9, "swellOf", "(I)I"⟩
abbrev cX9_bendOf : ByteArray := prog_11_method_37_code
def yX9_bendOf : MethodName := ⟨RX9, "bendOf", "(I)I"⟩
abbrev cX9_hangOf : ByteArray := prog_11_method_38_code
def yX9_hangOf : MethodName := ⟨RX9, "hangOf", "(I)I"⟩
abbrev cX9_gapBy : ByteArray := prog_11_method_39_code
def yX9_gapBy : MethodName := ⟨RX9, "gapBy", "(IIIIII)I"⟩
abbrev cX9_gap : ByteArray := prog_11_method_40_code
def yX9_gap : MethodName := ⟨RX9, "gap", "(II)I"⟩
abbrev cX9_rubs : ByteArray := prog_11_method_41_code
def yX9_rubs : MethodName := ⟨RX9, "rubs", "(I)I"⟩
abbrev cX9_draughts : ByteArray := prog_11_method_42_code
def yX9_draughts : MethodName := ⟨RX9, "draughts", "(I)I"⟩
abbrev cX9_of : ByteArray := prog_11_method_43_code
def yX9_of : MethodName := ⟨RX9, "of", "(II)I"⟩
abbrev cX9_told : ByteArray := prog_11_method_44_code
def yX9_told : MethodName := ⟨RX9, "told", "(I)I"⟩
abbrev cX9_nearer : ByteArray := prog_11_method_45_code
def yX9_nearer : MethodName := ⟨RX9, "nearer", "(IIZ)I"⟩
abbrev cX9_goMonth : ByteArray := prog_11_method_46_code
def yX9_goMonth : MethodName := ⟨RX9, "goMonth", "(I)V"⟩
abbrev cX9_goOn : ByteArray := prog_11_method_47_code
def yX9_goOn : MethodName := ⟨RX9, "goOn", "()V"⟩
abbrev cX9_month : ByteArray := prog_11_method_48_code
def yX9_month : MethodName := ⟨RX9, "month", "()I"⟩
abbrev cX9_isWhere : ByteArray := prog_11_method_49_code
def yX9_isWhere : MethodName := ⟨RX9, "isWhere", "(II)Z"⟩
abbrev cX9_planes : ByteArray := prog_11_method_50_code
def yX9_planes : MethodName := ⟨RX9, "planes", "(III)I"⟩
abbrev cX9_packed : ByteArray := prog_11_method_51_code
def yX9_packed : MethodName := ⟨RX9, "packed", "(II)I"⟩
abbrev cX9_paints : ByteArray := prog_11_method_52_code
def yX9_paints : MethodName := ⟨RX9, "paints", "(II)I"⟩
abbrev cX9_mend : ByteArray := prog_11_method_53_code
def yX9_mend : MethodName := ⟨RX9, "mend", "(IIII)I"⟩
abbrev cX9_keep : ByteArray := prog_11_method_54_code
def yX9_keep : MethodName := ⟨RX9, "keep", "()V"⟩
abbrev cX9_putBack : ByteArray := prog_11_method_55_code
def yX9_putBack : MethodName := ⟨RX9, "putBack", "()V"⟩
abbrev cX9_run : ByteArray := prog_11_method_56_code
def yX9_run : MethodName := ⟨RX9, "run", "(III)I"⟩
abbrev cX9_first : ByteArray := prog_11_method_57_code
def yX9_first : MethodName := ⟨RX9, "first", "(II)I"⟩
abbrev cX9_layGaps : ByteArray := prog_11_method_58_code
def yX9_layGaps : MethodName := ⟨RX9, "layGaps", "(III)V"⟩
abbrev cX9_worst : ByteArray := prog_11_method_59_code
def yX9_worst : MethodName := ⟨RX9, "worst", "(IIII)I"⟩
abbrev cX9_offOf : ByteArray := prog_11_method_60_code
def yX9_offOf : MethodName := ⟨RX9, "offOf", "(II)I"⟩
abbrev cX9_off : ByteArray := prog_11_method_61_code
def yX9_off : MethodName := ⟨RX9, "off", "(II)I"⟩
abbrev cX9_costOf : ByteArray := prog_11_method_62_code
def yX9_costOf : MethodName := ⟨RX9, "costOf", "(II)I"⟩
abbrev cX9_cheapest : ByteArray := prog_11_method_63_code
def yX9_cheapest : MethodName := ⟨RX9, "cheapest", "(II)I"⟩
abbrev cX9_why : ByteArray := prog_11_method_64_code
def yX9_why : MethodName := ⟨RX9, "why", "(II)I"⟩
abbrev cX9_divisor : ByteArray := prog_11_method_65_code
def yX9_divisor : MethodName := ⟨RX9, "divisor", "(II)I"⟩
abbrev cX9_byTwelve : ByteArray := prog_11_method_66_code
def yX9_byTwelve : MethodName := ⟨RX9, "byTwelve", "(II)J"⟩
abbrev cX9_odds : ByteArray := prog_11_method_67_code
def yX9_odds : MethodName := ⟨RX9, "odds", "(II)J"⟩
abbrev cX9_mean : ByteArray := prog_11_method_68_code
def yX9_mean : MethodName := ⟨RX9, "mean", "(III)J"⟩
abbrev cX9_ones : ByteArray := prog_11_method_69_code
def yX9_ones : MethodName := ⟨RX9, "ones", "(I)I"⟩
abbrev cX9_swapCuts : ByteArray := prog_11_method_70_code
def yX9_swapCuts : MethodName := ⟨RX9, "swapCuts", "(II)V"⟩
abbrev cX9_areChanged : ByteArray := prog_11_method_71_code
def yX9_areChanged : MethodName := ⟨RX9, "areChanged", "(II)Z"⟩
abbrev cX9_changed : ByteArray := prog_11_method_72_code
def yX9_changed : MethodName := ⟨RX9, "changed", "(I)I"⟩
abbrev cX9_book : ByteArray := prog_11_method_73_code
def yX9_book : MethodName := ⟨RX9, "book", "(II)I"⟩
abbrev cX9_looked : ByteArray := prog_11_method_74_code
def yX9_looked : MethodName := ⟨RX9, "looked", "(II)I"⟩
abbrev cX9_judge : ByteArray := prog_11_method_75_code
def yX9_judge : MethodName := ⟨RX9, "judge", "(III)I"⟩
abbrev cX9_image : ByteArray := prog_11_method_76_code
def yX9_image : MethodName := ⟨RX9, "image", "()I"⟩
abbrev cX9_undo : ByteArray := prog_11_method_77_code
def yX9_undo : MethodName := ⟨RX9, "undo", "()I"⟩
abbrev cX9_body : ByteArray := prog_11_method_78_code
def yX9_body : MethodName := ⟨RX9, "body", "(I)V"⟩
abbrev cX9_doorSwells : ByteArray := prog_11_method_79_code
def yX9_doorSwells : MethodName := ⟨RX9, "doorSwells", "(II)I"⟩
abbrev cX9_swellsAct : ByteArray := prog_11_method_80_code
def yX9_swellsAct : MethodName := ⟨RX9, "swellsAct", "(II)I"⟩
abbrev cX9_doorHangs : ByteArray := prog_11_method_81_code
def yX9_doorHangs : MethodName := ⟨RX9, "doorHangs", "(II)I"⟩
abbrev cX9_swollenHangs : ByteArray := prog_11_method_82_code
def yX9_swollenHangs : MethodName := ⟨RX9, "swollenHangs", "(II)I"⟩
abbrev cX9_hangsAct : ByteArray := prog_11_method_83_code
def yX9_hangsAct : MethodName := ⟨RX9, "hangsAct", "(II)I"⟩
abbrev cX9_doorTells : ByteArray := prog_11_method_84_code
def yX9_doorTells : MethodName := ⟨RX9, "doorTells", "(II)I"⟩
abbrev cX9_tellsAct : ByteArray := prog_11_method_85_code
def yX9_tellsAct : MethodName := ⟨RX9, "tellsAct", "(II)I"⟩
abbrev cX9_act : ByteArray := prog_11_method_86_code
def yX9_act : MethodName := ⟨RX9, "act", "(III)I"⟩
abbrev cX9_trace : ByteArray := prog_11_method_87_code
def yX9_trace : MethodName := ⟨RX9, "trace", "(I)I"⟩
abbrev cX9_taken : ByteArray := prog_11_method_88_code
def yX9_taken : MethodName := ⟨RX9, "taken", "(II)I"⟩
abbrev cX9_count : ByteArray := prog_11_method_89_code
def yX9_count : MethodName := ⟨RX9, "count", "(I)I"⟩
abbrev cX9_isTape : ByteArray := prog_11_method_90_code
def yX9_isTape : MethodName := ⟨RX9, "isTape", "(I)Z"⟩
abbrev cX9_tape : ByteArray := prog_11_method_91_code
def yX9_tape : MethodName := ⟨RX9, "tape", "(III)I"⟩
abbrev cX9_narrow : ByteArray := prog_11_method_92_code
def yX9_narrow : MethodName := ⟨RX9, "narrow", "(IJ)J"⟩
abbrev cX9_item : ByteArray := prog_11_method_93_code
def yX9_item : MethodName := ⟨RX9, "item", "(IIJ)I"⟩
abbrev cX9_read : ByteArray := prog_11_method_94_code
def yX9_read : MethodName := ⟨RX9, "read", "(II)J"⟩
abbrev cX9_shift : ByteArray := prog_11_method_95_code
def yX9_shift : MethodName := ⟨RX9, "shift", "(IIIII)I"⟩
def RJ11 : String := "java/lang/Character"
def RJ9 : String := "java/lang/Math"
abbrev cJ9_abs_0f7a4 : ByteArray := prog_14_method_59_code
def yJ9_abs_0f7a4 : MethodName := ⟨RJ9, "abs", "(I)I"⟩
abbrev cJ9_max_7cf53 : ByteArray := prog_14_method_65_code
def yJ9_max_7cf53 : MethodName := ⟨RJ9, "max", "(II)I"⟩
abbrev cJ9_min_7cf53 : ByteArray := prog_14_method_69_code
def yJ9_min_7cf53 : MethodName := ⟨RJ9, "min", "(II)I"⟩
def RJ0 : String := "java/lang/String"
abbrev cJ0_length_8abf5 : ByteArray := prog_15_method_54_code
def yJ0_length_8abf5 : MethodName := ⟨RJ0, "length", "()I"⟩
abbrev cJ0_charAt_5068e : ByteArray := prog_15_method_56_code
def yJ0_charAt_5068e : MethodName := ⟨RJ0, "charAt", "(I)C"⟩
abbrev cJ0_indexOf_0f7a4 : ByteArray := prog_15_method_79_code
def yJ0_indexOf_0f7a4 : MethodName := ⟨RJ0, "indexOf", "(I)I"⟩
abbrev cJ0_indexOf_7cf53 : ByteArray := prog_15_method_80_code
def yJ0_indexOf_7cf53 : MethodName := ⟨RJ0, "indexOf", "(II)I"⟩
abbrev cJ0_coder_7d493 : ByteArray := prog_15_method_152_code
def yJ0_coder_7d493 : MethodName := ⟨RJ0, "coder", "()B"⟩
abbrev cJ0_isLatin1_aae02 : ByteArray := prog_15_method_154_code
def yJ0_isLatin1_aae02 : MethodName := ⟨RJ0, "isLatin1", "()Z"⟩
abbrev cJ0_checkIndex_df160 : ByteArray := prog_15_method_155_code
def yJ0_checkIndex_df160 : MethodName := ⟨RJ0, "checkIndex", "(II)V"⟩
def RJ1 : String := "java/lang/StringLatin1"
abbrev cJ1_charAt_3b067 : ByteArray := prog_16_method_2_code
def yJ1_charAt_3b067 : MethodName := ⟨RJ1, "charAt", "([BI)C"⟩
abbrev cJ1_canEncode_9a6ad : ByteArray := prog_16_method_4_code
def yJ1_canEncode_9a6ad : MethodName := ⟨RJ1, "canEncode", "(I)Z"⟩
abbrev cJ1_indexOf_4cfef : ByteArray := prog_16_method_22_code
def yJ1_indexOf_4cfef : MethodName := ⟨RJ1, "indexOf", "([BIII)I"⟩
abbrev cJ1_indexOfChar_4cfef : ByteArray := prog_16_method_23_code
def yJ1_indexOfChar_4cfef : MethodName := ⟨RJ1, "indexOfChar", "([BIII)I"⟩
def RJ2 : String := "java/lang/StringUTF16"
def RJ10 : String := "java/lang/System"
def RJ7 : String := "java/util/Arrays"
abbrev cJ7_fill_d0a16 : ByteArray := prog_19_method_101_code
def yJ7_fill_d0a16 : MethodName := ⟨RJ7, "fill", "([JJ)V"⟩
abbrev cJ7_fill_53178 : ByteArray := prog_19_method_103_code
def yJ7_fill_53178 : MethodName := ⟨RJ7, "fill", "([II)V"⟩
abbrev cJ7_copyOf_59c91 : ByteArray := prog_19_method_123_code
def yJ7_copyOf_59c91 : MethodName := ⟨RJ7, "copyOf", "([II)[I"⟩
def RJ3 : String := "jdk/internal/util/Preconditions"
abbrev cJ3_checkIndex_8e157 : ByteArray := prog_20_method_11_code
def yJ3_checkIndex_8e157 : MethodName := ⟨RJ3, "checkIndex", "(IILjava/util/function/BiFunction;)I"⟩
def RL : String := "DoorSticksLaw"
abbrev cL_law : ByteArray := code
theorem dX0_init_0 : decode cX0_init 0 = .ok (.aload_n 0, 1) := by decide +kernel
theorem dX0_init_1 : decode cX0_init 1 = .ok (.invokespecial 3, 3) := by decide +kernel
theorem dX0_init_4 : decode cX0_init 4 = .ok (.aload_n 0, 1) := by decide +kernel
theorem dX0_init_5 : decode cX0_init 5 = .ok (.bipush 20, 2) := by decide +kernel
theorem dX0_init_7 : decode cX0_init 7 = .ok (.newarray .int, 2) := by decide +kernel
theorem dX0_init_9 : decode cX0_init 9 = .ok (.putfield 11, 3) := by decide +kernel
theorem dX0_init_12 : decode cX0_init 12 = .ok (.return_, 1) := by decide +kernel
theorem dX0_forget_0 : decode cX0_forget 0 = .ok (.aload_n 0, 1) := by decide +kernel
theorem dX0_forget_1 : decode cX0_forget 1 = .ok (.iconst 0, 1) := by decide +kernel
theorem dX0_forget_2 : decode cX0_forget 2 = .ok (.putfield 15, 3) := by decide +kernel
theorem dX0_forget_5 : decode cX0_forget 5 = .ok (.return_, 1) := by decide +kernel
theorem dX0_keptCount_0 : decode cX0_keptCount 0 = .ok (.aload_n 0, 1) := by decide +kernel
theorem dX0_keptCount_1 : decode cX0_keptCount 1 = .ok (.getfield 15, 3) := by decide +kernel
theorem dX0_keptCount_4 : decode cX0_keptCount 4 = .ok (.bipush 20, 2) := by decide +kernel
theorem dX0_keptCount_6 : decode cX0_keptCount 6 = .ok (.invokestatic 19, 3) := by decide +kernel
theorem dX0_keptCount_9 : decode cX0_keptCount 9 = .ok (.ireturn, 1) := by decide +kernel
theorem dX0_perform_0 : decode cX0_perform 0 = .ok (.aload_n 0, 1) := by decide +kernel
theorem dX0_perform_1 : decode cX0_perform 1 = .ok (.aload_n 1, 1) := by decide +kernel
theorem dX0_perform_2 : decode cX0_perform 2 = .ok (.getfield 25, 3) := by decide +kernel
theorem dX0_perform_5 : decode cX0_perform 5 = .ok (.putfield 30, 3) := by decide +kernel
theorem dX0_perform_8 : decode cX0_perform 8 = .ok (.aload_n 0, 1) := by decide +kernel
theorem dX0_perform_9 : decode cX0_perform 9 = .ok (.aload_n 1, 1) := by decide +kernel
theorem dX0_perform_10 : decode cX0_perform 10 = .ok (.getfield 31, 3) := by decide +kernel
theorem dX0_perform_13 : decode cX0_perform 13 = .ok (.putfield 34, 3) := by decide +kernel
theorem dX0_perform_16 : decode cX0_perform 16 = .ok (.aload_n 0, 1) := by decide +kernel
theorem dX0_perform_17 : decode cX0_perform 17 = .ok (.aload_n 1, 1) := by decide +kernel
theorem dX0_perform_18 : decode cX0_perform 18 = .ok (.getfield 35, 3) := by decide +kernel
theorem dX0_perform_21 : decode cX0_perform 21 = .ok (.putfield 38, 3) := by decide +kernel
theorem dX0_perform_24 : decode cX0_perform 24 = .ok (.iload_n 2, 1) := by decide +kernel
theorem dX0_perform_25 : decode cX0_perform 25 = .ok (.tableswitch 60 0 2 #[27, 38, 49], 27) := by decide +kernel
theorem dX0_perform_52 : decode cX0_perform 52 = .ok (.aload_n 0, 1) := by decide +kernel
theorem dX0_perform_53 : decode cX0_perform 53 = .ok (.aload_n 0, 1) := by decide +kernel
theorem dX0_perform_54 : decode cX0_perform 54 = .ok (.getfield 30, 3) := by decide +kernel
theorem dX0_perform_57 : decode cX0_perform 57 = .ok (.iload_n 3, 1) := by decide +kernel
theorem dX0_perform_58 : decode cX0_perform 58 = .ok (.iconst 0, 1) := by decide +kernel
theorem dX0_perform_59 : decode cX0_perform 59 = .ok (.invokestatic 39, 3) := by decide +kernel
theorem dX0_perform_62 : decode cX0_perform 62 = .ok (.ireturn, 1) := by decide +kernel
theorem dX0_perform_63 : decode cX0_perform 63 = .ok (.aload_n 0, 1) := by decide +kernel
theorem dX0_perform_64 : decode cX0_perform 64 = .ok (.aload_n 0, 1) := by decide +kernel
theorem dX0_perform_65 : decode cX0_perform 65 = .ok (.getfield 30, 3) := by decide +kernel
theorem dX0_perform_68 : decode cX0_perform 68 = .ok (.iload_n 3, 1) := by decide +kernel
theorem dX0_perform_69 : decode cX0_perform 69 = .ok (.iconst 0, 1) := by decide +kernel
theorem dX0_perform_70 : decode cX0_perform 70 = .ok (.invokestatic 43, 3) := by decide +kernel
theorem dX0_perform_73 : decode cX0_perform 73 = .ok (.ireturn, 1) := by decide +kernel
theorem dX0_perform_74 : decode cX0_perform 74 = .ok (.aload_n 0, 1) := by decide +kernel
theorem dX0_perform_75 : decode cX0_perform 75 = .ok (.aload_n 0, 1) := by decide +kernel
theorem dX0_perform_76 : decode cX0_perform 76 = .ok (.getfield 30, 3) := by decide +kernel
theorem dX0_perform_79 : decode cX0_perform 79 = .ok (.iload_n 3, 1) := by decide +kernel
theorem dX0_perform_80 : decode cX0_perform 80 = .ok (.iconst 0, 1) := by decide +kernel
theorem dX0_perform_81 : decode cX0_perform 81 = .ok (.invokestatic 46, 3) := by decide +kernel
theorem dX0_perform_84 : decode cX0_perform 84 = .ok (.ireturn, 1) := by decide +kernel
theorem dX0_perform_85 : decode cX0_perform 85 = .ok (.iconst 0, 1) := by decide +kernel
theorem dX0_perform_86 : decode cX0_perform 86 = .ok (.ireturn, 1) := by decide +kernel
theorem dX0_began_0 : decode cX0_began 0 = .ok (.aload_n 0, 1) := by decide +kernel
theorem dX0_began_1 : decode cX0_began 1 = .ok (.getfield 15, 3) := by decide +kernel
theorem dX0_began_4 : decode cX0_began 4 = .ok (.bipush 20, 2) := by decide +kernel
theorem dX0_began_6 : decode cX0_began 6 = .ok (.if_icmp .ge 13, 3) := by decide +kernel
theorem dX0_began_9 : decode cX0_began 9 = .ok (.aload_n 0, 1) := by decide +kernel
theorem dX0_began_10 : decode cX0_began 10 = .ok (.getfield 11, 3) := by decide +kernel
theorem dX0_began_13 : decode cX0_began 13 = .ok (.aload_n 0, 1) := by decide +kernel
theorem dX0_began_14 : decode cX0_began 14 = .ok (.getfield 15, 3) := by decide +kernel
theorem dX0_began_17 : decode cX0_began 17 = .ok (.iload_n 1, 1) := by decide +kernel
theorem dX0_began_18 : decode cX0_began 18 = .ok (.iastore, 1) := by decide +kernel
theorem dX0_began_19 : decode cX0_began 19 = .ok (.aload_n 0, 1) := by decide +kernel
theorem dX0_began_20 : decode cX0_began 20 = .ok (.dup, 1) := by decide +kernel
theorem dX0_began_21 : decode cX0_began 21 = .ok (.getfield 15, 3) := by decide +kernel
theorem dX0_began_24 : decode cX0_began 24 = .ok (.iconst 1, 1) := by decide +kernel
theorem dX0_began_25 : decode cX0_began 25 = .ok (.iadd, 1) := by decide +kernel
theorem dX0_began_26 : decode cX0_began 26 = .ok (.putfield 15, 3) := by decide +kernel
theorem dX0_began_29 : decode cX0_began 29 = .ok (.return_, 1) := by decide +kernel
theorem dX0_above_0 : decode cX0_above 0 = .ok (.iload_n 0, 1) := by decide +kernel
theorem dX0_above_1 : decode cX0_above 1 = .ok (.iconst 1, 1) := by decide +kernel
theorem dX0_above_2 : decode cX0_above 2 = .ok (.bipush 6, 2) := by decide +kernel
theorem dX0_above_4 : decode cX0_above 4 = .ok (.invokestatic 49, 3) := by decide +kernel
theorem dX0_above_7 : decode cX0_above 7 = .ok (.ifCond .eq 11, 3) := by decide +kernel
theorem dX0_above_10 : decode cX0_above 10 = .ok (.getstatic 53, 3) := by decide +kernel
theorem dX0_above_13 : decode cX0_above 13 = .ok (.iload_n 0, 1) := by decide +kernel
theorem dX0_above_14 : decode cX0_above 14 = .ok (.iaload, 1) := by decide +kernel
theorem dX0_above_15 : decode cX0_above 15 = .ok (.goto 4, 3) := by decide +kernel
theorem dX0_above_18 : decode cX0_above 18 = .ok (.iconst 0, 1) := by decide +kernel
theorem dX0_above_19 : decode cX0_above 19 = .ok (.ireturn, 1) := by decide +kernel
theorem dX0_swells_0 : decode cX0_swells 0 = .ok (.iload_n 3, 1) := by decide +kernel
theorem dX0_swells_1 : decode cX0_swells 1 = .ok (.bipush 40, 2) := by decide +kernel
theorem dX0_swells_3 : decode cX0_swells 3 = .ok (.if_icmp .le 5, 3) := by decide +kernel
theorem dX0_swells_6 : decode cX0_swells 6 = .ok (.iconst 0, 1) := by decide +kernel
theorem dX0_swells_7 : decode cX0_swells 7 = .ok (.ireturn, 1) := by decide +kernel
theorem dX0_swells_8 : decode cX0_swells 8 = .ok (.iload_n 1, 1) := by decide +kernel
theorem dX0_swells_9 : decode cX0_swells 9 = .ok (.tableswitch 122 0 6 #[43, 122, 56, 122, 77, 122, 97], 43) := by decide +kernel
theorem dX0_swells_52 : decode cX0_swells 52 = .ok (.aload_n 0, 1) := by decide +kernel
theorem dX0_swells_53 : decode cX0_swells 53 = .ok (.bipush 10, 2) := by decide +kernel
theorem dX0_swells_55 : decode cX0_swells 55 = .ok (.invokevirtual 56, 3) := by decide +kernel
theorem dX0_swells_58 : decode cX0_swells 58 = .ok (.iload_n 2, 1) := by decide +kernel
theorem dX0_swells_59 : decode cX0_swells 59 = .ok (.aload_n 0, 1) := by decide +kernel
theorem dX0_swells_60 : decode cX0_swells 60 = .ok (.getfield 38, 3) := by decide +kernel
theorem dX0_swells_63 : decode cX0_swells 63 = .ok (.iadd, 1) := by decide +kernel
theorem dX0_swells_64 : decode cX0_swells 64 = .ok (.ireturn, 1) := by decide +kernel
theorem dX0_swells_65 : decode cX0_swells 65 = .ok (.aload_n 0, 1) := by decide +kernel
theorem dX0_swells_66 : decode cX0_swells 66 = .ok (.bipush 30, 2) := by decide +kernel
theorem dX0_swells_68 : decode cX0_swells 68 = .ok (.invokevirtual 56, 3) := by decide +kernel
theorem dX0_swells_71 : decode cX0_swells 71 = .ok (.aload_n 0, 1) := by decide +kernel
theorem dX0_swells_72 : decode cX0_swells 72 = .ok (.iconst 2, 1) := by decide +kernel
theorem dX0_swells_73 : decode cX0_swells 73 = .ok (.invokestatic 60, 3) := by decide +kernel
theorem dX0_swells_76 : decode cX0_swells 76 = .ok (.iload_n 2, 1) := by decide +kernel
theorem dX0_swells_77 : decode cX0_swells 77 = .ok (.iconst 3, 1) := by decide +kernel
theorem dX0_swells_78 : decode cX0_swells 78 = .ok (.imul, 1) := by decide +kernel
theorem dX0_swells_79 : decode cX0_swells 79 = .ok (.iload_n 3, 1) := by decide +kernel
theorem dX0_swells_80 : decode cX0_swells 80 = .ok (.iconst 1, 1) := by decide +kernel
theorem dX0_swells_81 : decode cX0_swells 81 = .ok (.iadd, 1) := by decide +kernel
theorem dX0_swells_82 : decode cX0_swells 82 = .ok (.invokestatic 39, 3) := by decide +kernel
theorem dX0_swells_85 : decode cX0_swells 85 = .ok (.ireturn, 1) := by decide +kernel
theorem dX0_swells_86 : decode cX0_swells 86 = .ok (.aload_n 0, 1) := by decide +kernel
theorem dX0_swells_87 : decode cX0_swells 87 = .ok (.bipush 50, 2) := by decide +kernel
theorem dX0_swells_89 : decode cX0_swells 89 = .ok (.invokevirtual 56, 3) := by decide +kernel
theorem dX0_swells_92 : decode cX0_swells 92 = .ok (.aload_n 0, 1) := by decide +kernel
theorem dX0_swells_93 : decode cX0_swells 93 = .ok (.iconst 4, 1) := by decide +kernel
theorem dX0_swells_94 : decode cX0_swells 94 = .ok (.invokestatic 60, 3) := by decide +kernel
theorem dX0_swells_97 : decode cX0_swells 97 = .ok (.iload_n 2, 1) := by decide +kernel
theorem dX0_swells_98 : decode cX0_swells 98 = .ok (.iload_n 3, 1) := by decide +kernel
theorem dX0_swells_99 : decode cX0_swells 99 = .ok (.iconst 1, 1) := by decide +kernel
theorem dX0_swells_100 : decode cX0_swells 100 = .ok (.iadd, 1) := by decide +kernel
theorem dX0_swells_101 : decode cX0_swells 101 = .ok (.invokestatic 39, 3) := by decide +kernel
theorem dX0_swells_104 : decode cX0_swells 104 = .ok (.ineg, 1) := by decide +kernel
theorem dX0_swells_105 : decode cX0_swells 105 = .ok (.ireturn, 1) := by decide +kernel
theorem dX0_swells_106 : decode cX0_swells 106 = .ok (.aload_n 0, 1) := by decide +kernel
theorem dX0_swells_107 : decode cX0_swells 107 = .ok (.bipush 71, 2) := by decide +kernel
theorem dX0_swells_109 : decode cX0_swells 109 = .ok (.invokevirtual 56, 3) := by decide +kernel
theorem dX0_swells_112 : decode cX0_swells 112 = .ok (.aload_n 0, 1) := by decide +kernel
theorem dX0_swells_113 : decode cX0_swells 113 = .ok (.bipush 6, 2) := by decide +kernel
theorem dX0_swells_115 : decode cX0_swells 115 = .ok (.invokestatic 60, 3) := by decide +kernel
theorem dX0_swells_118 : decode cX0_swells 118 = .ok (.iload_n 2, 1) := by decide +kernel
theorem dX0_swells_119 : decode cX0_swells 119 = .ok (.iload_n 3, 1) := by decide +kernel
theorem dX0_swells_120 : decode cX0_swells 120 = .ok (.iconst 1, 1) := by decide +kernel
theorem dX0_swells_121 : decode cX0_swells 121 = .ok (.iadd, 1) := by decide +kernel
theorem dX0_swells_122 : decode cX0_swells 122 = .ok (.invokestatic 39, 3) := by decide +kernel
theorem dX0_swells_125 : decode cX0_swells 125 = .ok (.aload_n 0, 1) := by decide +kernel
theorem dX0_swells_126 : decode cX0_swells 126 = .ok (.getfield 34, 3) := by decide +kernel
theorem dX0_swells_129 : decode cX0_swells 129 = .ok (.ixor, 1) := by decide +kernel
theorem dX0_swells_130 : decode cX0_swells 130 = .ok (.ireturn, 1) := by decide +kernel
theorem dX0_swells_131 : decode cX0_swells 131 = .ok (.aload_n 0, 1) := by decide +kernel
theorem dX0_swells_132 : decode cX0_swells 132 = .ok (.iload_n 1, 1) := by decide +kernel
theorem dX0_swells_133 : decode cX0_swells 133 = .ok (.invokestatic 60, 3) := by decide +kernel
theorem dX0_swells_136 : decode cX0_swells 136 = .ok (.iload_n 2, 1) := by decide +kernel
theorem dX0_swells_137 : decode cX0_swells 137 = .ok (.iload_n 3, 1) := by decide +kernel
theorem dX0_swells_138 : decode cX0_swells 138 = .ok (.iconst 1, 1) := by decide +kernel
theorem dX0_swells_139 : decode cX0_swells 139 = .ok (.iadd, 1) := by decide +kernel
theorem dX0_swells_140 : decode cX0_swells 140 = .ok (.invokestatic 39, 3) := by decide +kernel
theorem dX0_swells_143 : decode cX0_swells 143 = .ok (.ireturn, 1) := by decide +kernel
theorem dX0_hangs_0 : decode cX0_hangs 0 = .ok (.iload_n 3, 1) := by decide +kernel
theorem dX0_hangs_1 : decode cX0_hangs 1 = .ok (.bipush 40, 2) := by decide +kernel
theorem dX0_hangs_3 : decode cX0_hangs 3 = .ok (.if_icmp .le 5, 3) := by decide +kernel
theorem dX0_hangs_6 : decode cX0_hangs 6 = .ok (.iconst 0, 1) := by decide +kernel
theorem dX0_hangs_7 : decode cX0_hangs 7 = .ok (.ireturn, 1) := by decide +kernel
theorem dX0_hangs_8 : decode cX0_hangs 8 = .ok (.iload_n 1, 1) := by decide +kernel
theorem dX0_hangs_9 : decode cX0_hangs 9 = .ok (.tableswitch 144 0 6 #[43, 67, 144, 144, 89, 144, 110], 43) := by decide +kernel
theorem dX0_hangs_52 : decode cX0_hangs 52 = .ok (.aload_n 0, 1) := by decide +kernel
theorem dX0_hangs_53 : decode cX0_hangs 53 = .ok (.bipush 11, 2) := by decide +kernel
theorem dX0_hangs_55 : decode cX0_hangs 55 = .ok (.invokevirtual 56, 3) := by decide +kernel
theorem dX0_hangs_58 : decode cX0_hangs 58 = .ok (.aload_n 0, 1) := by decide +kernel
theorem dX0_hangs_59 : decode cX0_hangs 59 = .ok (.aload_n 0, 1) := by decide +kernel
theorem dX0_hangs_60 : decode cX0_hangs 60 = .ok (.getfield 30, 3) := by decide +kernel
theorem dX0_hangs_63 : decode cX0_hangs 63 = .ok (.iload_n 2, 1) := by decide +kernel
theorem dX0_hangs_64 : decode cX0_hangs 64 = .ok (.iload_n 3, 1) := by decide +kernel
theorem dX0_hangs_65 : decode cX0_hangs 65 = .ok (.iconst 1, 1) := by decide +kernel
theorem dX0_hangs_66 : decode cX0_hangs 66 = .ok (.iadd, 1) := by decide +kernel
theorem dX0_hangs_67 : decode cX0_hangs 67 = .ok (.invokestatic 39, 3) := by decide +kernel
theorem dX0_hangs_70 : decode cX0_hangs 70 = .ok (.aload_n 0, 1) := by decide +kernel
theorem dX0_hangs_71 : decode cX0_hangs 71 = .ok (.getfield 34, 3) := by decide +kernel
theorem dX0_hangs_74 : decode cX0_hangs 74 = .ok (.isub, 1) := by decide +kernel
theorem dX0_hangs_75 : decode cX0_hangs 75 = .ok (.ireturn, 1) := by decide +kernel
theorem dX0_hangs_76 : decode cX0_hangs 76 = .ok (.aload_n 0, 1) := by decide +kernel
theorem dX0_hangs_77 : decode cX0_hangs 77 = .ok (.bipush 20, 2) := by decide +kernel
theorem dX0_hangs_79 : decode cX0_hangs 79 = .ok (.invokevirtual 56, 3) := by decide +kernel
theorem dX0_hangs_82 : decode cX0_hangs 82 = .ok (.aload_n 0, 1) := by decide +kernel
theorem dX0_hangs_83 : decode cX0_hangs 83 = .ok (.iconst 1, 1) := by decide +kernel
theorem dX0_hangs_84 : decode cX0_hangs 84 = .ok (.invokestatic 60, 3) := by decide +kernel
theorem dX0_hangs_87 : decode cX0_hangs 87 = .ok (.iload_n 2, 1) := by decide +kernel
theorem dX0_hangs_88 : decode cX0_hangs 88 = .ok (.iload_n 3, 1) := by decide +kernel
theorem dX0_hangs_89 : decode cX0_hangs 89 = .ok (.iconst 1, 1) := by decide +kernel
theorem dX0_hangs_90 : decode cX0_hangs 90 = .ok (.iadd, 1) := by decide +kernel
theorem dX0_hangs_91 : decode cX0_hangs 91 = .ok (.invokestatic 43, 3) := by decide +kernel
theorem dX0_hangs_94 : decode cX0_hangs 94 = .ok (.bipush 6, 2) := by decide +kernel
theorem dX0_hangs_96 : decode cX0_hangs 96 = .ok (.ixor, 1) := by decide +kernel
theorem dX0_hangs_97 : decode cX0_hangs 97 = .ok (.ireturn, 1) := by decide +kernel
theorem dX0_hangs_98 : decode cX0_hangs 98 = .ok (.aload_n 0, 1) := by decide +kernel
theorem dX0_hangs_99 : decode cX0_hangs 99 = .ok (.bipush 51, 2) := by decide +kernel
theorem dX0_hangs_101 : decode cX0_hangs 101 = .ok (.invokevirtual 56, 3) := by decide +kernel
theorem dX0_hangs_104 : decode cX0_hangs 104 = .ok (.aload_n 0, 1) := by decide +kernel
theorem dX0_hangs_105 : decode cX0_hangs 105 = .ok (.iconst 4, 1) := by decide +kernel
theorem dX0_hangs_106 : decode cX0_hangs 106 = .ok (.invokestatic 60, 3) := by decide +kernel
theorem dX0_hangs_109 : decode cX0_hangs 109 = .ok (.iload_n 2, 1) := by decide +kernel
theorem dX0_hangs_110 : decode cX0_hangs 110 = .ok (.iconst 1, 1) := by decide +kernel
theorem dX0_hangs_111 : decode cX0_hangs 111 = .ok (.iadd, 1) := by decide +kernel
theorem dX0_hangs_112 : decode cX0_hangs 112 = .ok (.iload_n 3, 1) := by decide +kernel
theorem dX0_hangs_113 : decode cX0_hangs 113 = .ok (.iconst 1, 1) := by decide +kernel
theorem dX0_hangs_114 : decode cX0_hangs 114 = .ok (.iadd, 1) := by decide +kernel
theorem dX0_hangs_115 : decode cX0_hangs 115 = .ok (.invokestatic 43, 3) := by decide +kernel
theorem dX0_hangs_118 : decode cX0_hangs 118 = .ok (.ireturn, 1) := by decide +kernel
theorem dX0_hangs_119 : decode cX0_hangs 119 = .ok (.aload_n 0, 1) := by decide +kernel
theorem dX0_hangs_120 : decode cX0_hangs 120 = .ok (.bipush 70, 2) := by decide +kernel
theorem dX0_hangs_122 : decode cX0_hangs 122 = .ok (.invokevirtual 56, 3) := by decide +kernel
theorem dX0_hangs_125 : decode cX0_hangs 125 = .ok (.aload_n 0, 1) := by decide +kernel
theorem dX0_hangs_126 : decode cX0_hangs 126 = .ok (.bipush 6, 2) := by decide +kernel
theorem dX0_hangs_128 : decode cX0_hangs 128 = .ok (.invokestatic 60, 3) := by decide +kernel
theorem dX0_hangs_131 : decode cX0_hangs 131 = .ok (.iload_n 2, 1) := by decide +kernel
theorem dX0_hangs_132 : decode cX0_hangs 132 = .ok (.iload_n 3, 1) := by decide +kernel
theorem dX0_hangs_133 : decode cX0_hangs 133 = .ok (.iconst 1, 1) := by decide +kernel
theorem dX0_hangs_134 : decode cX0_hangs 134 = .ok (.iadd, 1) := by decide +kernel
theorem dX0_hangs_135 : decode cX0_hangs 135 = .ok (.invokestatic 43, 3) := by decide +kernel
theorem dX0_hangs_138 : decode cX0_hangs 138 = .ok (.aload_n 0, 1) := by decide +kernel
theorem dX0_hangs_139 : decode cX0_hangs 139 = .ok (.bipush 6, 2) := by decide +kernel
theorem dX0_hangs_141 : decode cX0_hangs 141 = .ok (.invokestatic 60, 3) := by decide +kernel
theorem dX0_hangs_144 : decode cX0_hangs 144 = .ok (.iconst 2, 1) := by decide +kernel
theorem dX0_hangs_145 : decode cX0_hangs 145 = .ok (.iload_n 3, 1) := by decide +kernel
theorem dX0_hangs_146 : decode cX0_hangs 146 = .ok (.iconst 1, 1) := by decide +kernel
theorem dX0_hangs_147 : decode cX0_hangs 147 = .ok (.iadd, 1) := by decide +kernel
theorem dX0_hangs_148 : decode cX0_hangs 148 = .ok (.invokestatic 39, 3) := by decide +kernel
theorem dX0_hangs_151 : decode cX0_hangs 151 = .ok (.iadd, 1) := by decide +kernel
theorem dX0_hangs_152 : decode cX0_hangs 152 = .ok (.ireturn, 1) := by decide +kernel
theorem dX0_hangs_153 : decode cX0_hangs 153 = .ok (.aload_n 0, 1) := by decide +kernel
theorem dX0_hangs_154 : decode cX0_hangs 154 = .ok (.iload_n 1, 1) := by decide +kernel
theorem dX0_hangs_155 : decode cX0_hangs 155 = .ok (.invokestatic 60, 3) := by decide +kernel
theorem dX0_hangs_158 : decode cX0_hangs 158 = .ok (.iload_n 2, 1) := by decide +kernel
theorem dX0_hangs_159 : decode cX0_hangs 159 = .ok (.iload_n 3, 1) := by decide +kernel
theorem dX0_hangs_160 : decode cX0_hangs 160 = .ok (.iconst 1, 1) := by decide +kernel
theorem dX0_hangs_161 : decode cX0_hangs 161 = .ok (.iadd, 1) := by decide +kernel
theorem dX0_hangs_162 : decode cX0_hangs 162 = .ok (.invokestatic 43, 3) := by decide +kernel
theorem dX0_hangs_165 : decode cX0_hangs 165 = .ok (.ireturn, 1) := by decide +kernel
theorem dX0_tells_0 : decode cX0_tells 0 = .ok (.iload_n 3, 1) := by decide +kernel
theorem dX0_tells_1 : decode cX0_tells 1 = .ok (.bipush 40, 2) := by decide +kernel
theorem dX0_tells_3 : decode cX0_tells 3 = .ok (.if_icmp .le 5, 3) := by decide +kernel
theorem dX0_tells_6 : decode cX0_tells 6 = .ok (.iconst 0, 1) := by decide +kernel
theorem dX0_tells_7 : decode cX0_tells 7 = .ok (.ireturn, 1) := by decide +kernel
theorem dX0_tells_8 : decode cX0_tells 8 = .ok (.iload_n 1, 1) := by decide +kernel
theorem dX0_tells_9 : decode cX0_tells 9 = .ok (.lookupswitch 112 #[(0, 35), (3, 56), (5, 88)], 35) := by decide +kernel
theorem dX0_tells_44 : decode cX0_tells 44 = .ok (.aload_n 0, 1) := by decide +kernel
theorem dX0_tells_45 : decode cX0_tells 45 = .ok (.bipush 12, 2) := by decide +kernel
theorem dX0_tells_47 : decode cX0_tells 47 = .ok (.invokevirtual 56, 3) := by decide +kernel
theorem dX0_tells_50 : decode cX0_tells 50 = .ok (.aload_n 0, 1) := by decide +kernel
theorem dX0_tells_51 : decode cX0_tells 51 = .ok (.aload_n 0, 1) := by decide +kernel
theorem dX0_tells_52 : decode cX0_tells 52 = .ok (.getfield 30, 3) := by decide +kernel
theorem dX0_tells_55 : decode cX0_tells 55 = .ok (.iload_n 2, 1) := by decide +kernel
theorem dX0_tells_56 : decode cX0_tells 56 = .ok (.iload_n 3, 1) := by decide +kernel
theorem dX0_tells_57 : decode cX0_tells 57 = .ok (.iconst 1, 1) := by decide +kernel
theorem dX0_tells_58 : decode cX0_tells 58 = .ok (.iadd, 1) := by decide +kernel
theorem dX0_tells_59 : decode cX0_tells 59 = .ok (.invokestatic 43, 3) := by decide +kernel
theorem dX0_tells_62 : decode cX0_tells 62 = .ok (.iconst 2, 1) := by decide +kernel
theorem dX0_tells_63 : decode cX0_tells 63 = .ok (.imul, 1) := by decide +kernel
theorem dX0_tells_64 : decode cX0_tells 64 = .ok (.ireturn, 1) := by decide +kernel
theorem dX0_tells_65 : decode cX0_tells 65 = .ok (.aload_n 0, 1) := by decide +kernel
theorem dX0_tells_66 : decode cX0_tells 66 = .ok (.bipush 40, 2) := by decide +kernel
theorem dX0_tells_68 : decode cX0_tells 68 = .ok (.invokevirtual 56, 3) := by decide +kernel
theorem dX0_tells_71 : decode cX0_tells 71 = .ok (.aload_n 0, 1) := by decide +kernel
theorem dX0_tells_72 : decode cX0_tells 72 = .ok (.iconst 3, 1) := by decide +kernel
theorem dX0_tells_73 : decode cX0_tells 73 = .ok (.invokestatic 60, 3) := by decide +kernel
theorem dX0_tells_76 : decode cX0_tells 76 = .ok (.iload_n 2, 1) := by decide +kernel
theorem dX0_tells_77 : decode cX0_tells 77 = .ok (.iload_n 3, 1) := by decide +kernel
theorem dX0_tells_78 : decode cX0_tells 78 = .ok (.iconst 1, 1) := by decide +kernel
theorem dX0_tells_79 : decode cX0_tells 79 = .ok (.iadd, 1) := by decide +kernel
theorem dX0_tells_80 : decode cX0_tells 80 = .ok (.invokestatic 46, 3) := by decide +kernel
theorem dX0_tells_83 : decode cX0_tells 83 = .ok (.aload_n 0, 1) := by decide +kernel
theorem dX0_tells_84 : decode cX0_tells 84 = .ok (.aload_n 0, 1) := by decide +kernel
theorem dX0_tells_85 : decode cX0_tells 85 = .ok (.getfield 30, 3) := by decide +kernel
theorem dX0_tells_88 : decode cX0_tells 88 = .ok (.iconst 1, 1) := by decide +kernel
theorem dX0_tells_89 : decode cX0_tells 89 = .ok (.iload_n 3, 1) := by decide +kernel
theorem dX0_tells_90 : decode cX0_tells 90 = .ok (.iconst 1, 1) := by decide +kernel
theorem dX0_tells_91 : decode cX0_tells 91 = .ok (.iadd, 1) := by decide +kernel
theorem dX0_tells_92 : decode cX0_tells 92 = .ok (.invokestatic 43, 3) := by decide +kernel
theorem dX0_tells_95 : decode cX0_tells 95 = .ok (.iadd, 1) := by decide +kernel
theorem dX0_tells_96 : decode cX0_tells 96 = .ok (.ireturn, 1) := by decide +kernel
theorem dX0_tells_97 : decode cX0_tells 97 = .ok (.aload_n 0, 1) := by decide +kernel
theorem dX0_tells_98 : decode cX0_tells 98 = .ok (.bipush 60, 2) := by decide +kernel
theorem dX0_tells_100 : decode cX0_tells 100 = .ok (.invokevirtual 56, 3) := by decide +kernel
theorem dX0_tells_103 : decode cX0_tells 103 = .ok (.aload_n 0, 1) := by decide +kernel
theorem dX0_tells_104 : decode cX0_tells 104 = .ok (.iconst 5, 1) := by decide +kernel
theorem dX0_tells_105 : decode cX0_tells 105 = .ok (.invokestatic 60, 3) := by decide +kernel
theorem dX0_tells_108 : decode cX0_tells 108 = .ok (.iload_n 2, 1) := by decide +kernel
theorem dX0_tells_109 : decode cX0_tells 109 = .ok (.aload_n 0, 1) := by decide +kernel
theorem dX0_tells_110 : decode cX0_tells 110 = .ok (.getfield 38, 3) := by decide +kernel
theorem dX0_tells_113 : decode cX0_tells 113 = .ok (.isub, 1) := by decide +kernel
theorem dX0_tells_114 : decode cX0_tells 114 = .ok (.iload_n 3, 1) := by decide +kernel
theorem dX0_tells_115 : decode cX0_tells 115 = .ok (.iconst 1, 1) := by decide +kernel
theorem dX0_tells_116 : decode cX0_tells 116 = .ok (.iadd, 1) := by decide +kernel
theorem dX0_tells_117 : decode cX0_tells 117 = .ok (.invokestatic 46, 3) := by decide +kernel
theorem dX0_tells_120 : decode cX0_tells 120 = .ok (.ireturn, 1) := by decide +kernel
theorem dX0_tells_121 : decode cX0_tells 121 = .ok (.aload_n 0, 1) := by decide +kernel
theorem dX0_tells_122 : decode cX0_tells 122 = .ok (.iload_n 1, 1) := by decide +kernel
theorem dX0_tells_123 : decode cX0_tells 123 = .ok (.invokestatic 60, 3) := by decide +kernel
theorem dX0_tells_126 : decode cX0_tells 126 = .ok (.iload_n 2, 1) := by decide +kernel
theorem dX0_tells_127 : decode cX0_tells 127 = .ok (.iload_n 3, 1) := by decide +kernel
theorem dX0_tells_128 : decode cX0_tells 128 = .ok (.iconst 1, 1) := by decide +kernel
theorem dX0_tells_129 : decode cX0_tells 129 = .ok (.iadd, 1) := by decide +kernel
theorem dX0_tells_130 : decode cX0_tells 130 = .ok (.invokestatic 46, 3) := by decide +kernel
theorem dX0_tells_133 : decode cX0_tells 133 = .ok (.ireturn, 1) := by decide +kernel
theorem dX1_init_0 : decode cX1_init 0 = .ok (.aload_n 0, 1) := by decide +kernel
theorem dX1_init_1 : decode cX1_init 1 = .ok (.invokespecial 1, 3) := by decide +kernel
theorem dX1_init_4 : decode cX1_init 4 = .ok (.aload_n 0, 1) := by decide +kernel
theorem dX1_init_5 : decode cX1_init 5 = .ok (.iload_n 1, 1) := by decide +kernel
theorem dX1_init_6 : decode cX1_init 6 = .ok (.putfield 7, 3) := by decide +kernel
theorem dX1_init_9 : decode cX1_init 9 = .ok (.aload_n 0, 1) := by decide +kernel
theorem dX1_init_10 : decode cX1_init 10 = .ok (.iload_n 2, 1) := by decide +kernel
theorem dX1_init_11 : decode cX1_init 11 = .ok (.putfield 13, 3) := by decide +kernel
theorem dX1_init_14 : decode cX1_init 14 = .ok (.aload_n 0, 1) := by decide +kernel
theorem dX1_init_15 : decode cX1_init 15 = .ok (.aload_n 3, 1) := by decide +kernel
theorem dX1_init_16 : decode cX1_init 16 = .ok (.putfield 16, 3) := by decide +kernel
theorem dX1_init_19 : decode cX1_init 19 = .ok (.return_, 1) := by decide +kernel
theorem dX1_codeOfTest_0 : decode cX1_codeOfTest 0 = .ok (.iload_n 0, 1) := by decide +kernel
theorem dX1_codeOfTest_1 : decode cX1_codeOfTest 1 = .ok (.iconst 3, 1) := by decide +kernel
theorem dX1_codeOfTest_2 : decode cX1_codeOfTest 2 = .ok (.imul, 1) := by decide +kernel
theorem dX1_codeOfTest_3 : decode cX1_codeOfTest 3 = .ok (.iload_n 1, 1) := by decide +kernel
theorem dX1_codeOfTest_4 : decode cX1_codeOfTest 4 = .ok (.iadd, 1) := by decide +kernel
theorem dX1_codeOfTest_5 : decode cX1_codeOfTest 5 = .ok (.bipush 100, 2) := by decide +kernel
theorem dX1_codeOfTest_7 : decode cX1_codeOfTest 7 = .ok (.imul, 1) := by decide +kernel
theorem dX1_codeOfTest_8 : decode cX1_codeOfTest 8 = .ok (.iload_n 2, 1) := by decide +kernel
theorem dX1_codeOfTest_9 : decode cX1_codeOfTest 9 = .ok (.iadd, 1) := by decide +kernel
theorem dX1_codeOfTest_10 : decode cX1_codeOfTest 10 = .ok (.ireturn, 1) := by decide +kernel
theorem dX1_holds_0 : decode cX1_holds 0 = .ok (.lconst 0, 1) := by decide +kernel
theorem dX1_holds_1 : decode cX1_holds 1 = .ok (.lstore_n 2, 1) := by decide +kernel
theorem dX1_holds_2 : decode cX1_holds 2 = .ok (.aload_n 0, 1) := by decide +kernel
theorem dX1_holds_3 : decode cX1_holds 3 = .ok (.getfield 16, 3) := by decide +kernel
theorem dX1_holds_6 : decode cX1_holds 6 = .ok (.astore 4, 2) := by decide +kernel
theorem dX1_holds_8 : decode cX1_holds 8 = .ok (.aload 4, 2) := by decide +kernel
theorem dX1_holds_10 : decode cX1_holds 10 = .ok (.arraylength, 1) := by decide +kernel
theorem dX1_holds_11 : decode cX1_holds 11 = .ok (.istore 5, 2) := by decide +kernel
theorem dX1_holds_13 : decode cX1_holds 13 = .ok (.iconst 0, 1) := by decide +kernel
theorem dX1_holds_14 : decode cX1_holds 14 = .ok (.istore 6, 2) := by decide +kernel
theorem dX1_holds_16 : decode cX1_holds 16 = .ok (.iload 6, 2) := by decide +kernel
theorem dX1_holds_18 : decode cX1_holds 18 = .ok (.iload 5, 2) := by decide +kernel
theorem dX1_holds_20 : decode cX1_holds 20 = .ok (.if_icmp .ge 97, 3) := by decide +kernel
theorem dX1_holds_23 : decode cX1_holds 23 = .ok (.aload 4, 2) := by decide +kernel
theorem dX1_holds_25 : decode cX1_holds 25 = .ok (.iload 6, 2) := by decide +kernel
theorem dX1_holds_27 : decode cX1_holds 27 = .ok (.iaload, 1) := by decide +kernel
theorem dX1_holds_28 : decode cX1_holds 28 = .ok (.istore 7, 2) := by decide +kernel
theorem dX1_holds_30 : decode cX1_holds 30 = .ok (.iload 7, 2) := by decide +kernel
theorem dX1_holds_32 : decode cX1_holds 32 = .ok (.tableswitch 59 (-3) (-1) #[48, 35, 28], 28) := by decide +kernel
theorem dX1_holds_60 : decode cX1_holds 60 = .ok (.lload_n 2, 1) := by decide +kernel
theorem dX1_holds_61 : decode cX1_holds 61 = .ok (.lconst 1, 1) := by decide +kernel
theorem dX1_holds_62 : decode cX1_holds 62 = .ok (.lxor, 1) := by decide +kernel
theorem dX1_holds_63 : decode cX1_holds 63 = .ok (.lstore_n 2, 1) := by decide +kernel
theorem dX1_holds_64 : decode cX1_holds 64 = .ok (.goto 47, 3) := by decide +kernel
theorem dX1_holds_67 : decode cX1_holds 67 = .ok (.lload_n 2, 1) := by decide +kernel
theorem dX1_holds_68 : decode cX1_holds 68 = .ok (.iconst 1, 1) := by decide +kernel
theorem dX1_holds_69 : decode cX1_holds 69 = .ok (.lushr, 1) := by decide +kernel
theorem dX1_holds_70 : decode cX1_holds 70 = .ok (.lload_n 2, 1) := by decide +kernel
theorem dX1_holds_71 : decode cX1_holds 71 = .ok (.ldc2_w 20, 3) := by decide +kernel
theorem dX1_holds_74 : decode cX1_holds 74 = .ok (.lor, 1) := by decide +kernel
theorem dX1_holds_75 : decode cX1_holds 75 = .ok (.land, 1) := by decide +kernel
theorem dX1_holds_76 : decode cX1_holds 76 = .ok (.lstore_n 2, 1) := by decide +kernel
theorem dX1_holds_77 : decode cX1_holds 77 = .ok (.goto 34, 3) := by decide +kernel
theorem dX1_holds_80 : decode cX1_holds 80 = .ok (.lload_n 2, 1) := by decide +kernel
theorem dX1_holds_81 : decode cX1_holds 81 = .ok (.iconst 1, 1) := by decide +kernel
theorem dX1_holds_82 : decode cX1_holds 82 = .ok (.lushr, 1) := by decide +kernel
theorem dX1_holds_83 : decode cX1_holds 83 = .ok (.lload_n 2, 1) := by decide +kernel
theorem dX1_holds_84 : decode cX1_holds 84 = .ok (.lconst 1, 1) := by decide +kernel
theorem dX1_holds_85 : decode cX1_holds 85 = .ok (.land, 1) := by decide +kernel
theorem dX1_holds_86 : decode cX1_holds 86 = .ok (.lor, 1) := by decide +kernel
theorem dX1_holds_87 : decode cX1_holds 87 = .ok (.lstore_n 2, 1) := by decide +kernel
theorem dX1_holds_88 : decode cX1_holds 88 = .ok (.goto 23, 3) := by decide +kernel
theorem dX1_holds_91 : decode cX1_holds 91 = .ok (.lload_n 2, 1) := by decide +kernel
theorem dX1_holds_92 : decode cX1_holds 92 = .ok (.iconst 1, 1) := by decide +kernel
theorem dX1_holds_93 : decode cX1_holds 93 = .ok (.lshl, 1) := by decide +kernel
theorem dX1_holds_94 : decode cX1_holds 94 = .ok (.iload 7, 2) := by decide +kernel
theorem dX1_holds_96 : decode cX1_holds 96 = .ok (.aload_n 1, 1) := by decide +kernel
theorem dX1_holds_97 : decode cX1_holds 97 = .ok (.invokestatic 22, 3) := by decide +kernel
theorem dX1_holds_100 : decode cX1_holds 100 = .ok (.ifCond .eq 7, 3) := by decide +kernel
theorem dX1_holds_103 : decode cX1_holds 103 = .ok (.iconst 1, 1) := by decide +kernel
theorem dX1_holds_104 : decode cX1_holds 104 = .ok (.goto 4, 3) := by decide +kernel
theorem dX1_holds_107 : decode cX1_holds 107 = .ok (.iconst 0, 1) := by decide +kernel
theorem dX1_holds_108 : decode cX1_holds 108 = .ok (.i2l, 1) := by decide +kernel
theorem dX1_holds_109 : decode cX1_holds 109 = .ok (.lor, 1) := by decide +kernel
theorem dX1_holds_110 : decode cX1_holds 110 = .ok (.lstore_n 2, 1) := by decide +kernel
theorem dX1_holds_111 : decode cX1_holds 111 = .ok (.iinc 6 1, 3) := by decide +kernel
theorem dX1_holds_114 : decode cX1_holds 114 = .ok (.goto (-98), 3) := by decide +kernel
theorem dX1_holds_117 : decode cX1_holds 117 = .ok (.lload_n 2, 1) := by decide +kernel
theorem dX1_holds_118 : decode cX1_holds 118 = .ok (.lconst 1, 1) := by decide +kernel
theorem dX1_holds_119 : decode cX1_holds 119 = .ok (.land, 1) := by decide +kernel
theorem dX1_holds_120 : decode cX1_holds 120 = .ok (.lconst 0, 1) := by decide +kernel
theorem dX1_holds_121 : decode cX1_holds 121 = .ok (.lcmp, 1) := by decide +kernel
theorem dX1_holds_122 : decode cX1_holds 122 = .ok (.ifCond .eq 7, 3) := by decide +kernel
theorem dX1_holds_125 : decode cX1_holds 125 = .ok (.iconst 1, 1) := by decide +kernel
theorem dX1_holds_126 : decode cX1_holds 126 = .ok (.goto 4, 3) := by decide +kernel
theorem dX1_holds_129 : decode cX1_holds 129 = .ok (.iconst 0, 1) := by decide +kernel
theorem dX1_holds_130 : decode cX1_holds 130 = .ok (.ireturn, 1) := by decide +kernel
theorem dX1_testHolds_0 : decode cX1_testHolds 0 = .ok (.iload_n 0, 1) := by decide +kernel
theorem dX1_testHolds_1 : decode cX1_testHolds 1 = .ok (.sipush 300, 3) := by decide +kernel
theorem dX1_testHolds_4 : decode cX1_testHolds 4 = .ok (.idiv, 1) := by decide +kernel
theorem dX1_testHolds_5 : decode cX1_testHolds 5 = .ok (.istore_n 2, 1) := by decide +kernel
theorem dX1_testHolds_6 : decode cX1_testHolds 6 = .ok (.iload_n 2, 1) := by decide +kernel
theorem dX1_testHolds_7 : decode cX1_testHolds 7 = .ok (.ifCond .lt 9, 3) := by decide +kernel
theorem dX1_testHolds_10 : decode cX1_testHolds 10 = .ok (.iload_n 2, 1) := by decide +kernel
theorem dX1_testHolds_11 : decode cX1_testHolds 11 = .ok (.aload_n 1, 1) := by decide +kernel
theorem dX1_testHolds_12 : decode cX1_testHolds 12 = .ok (.arraylength, 1) := by decide +kernel
theorem dX1_testHolds_13 : decode cX1_testHolds 13 = .ok (.if_icmp .lt 5, 3) := by decide +kernel
theorem dX1_testHolds_16 : decode cX1_testHolds 16 = .ok (.iconst 0, 1) := by decide +kernel
theorem dX1_testHolds_17 : decode cX1_testHolds 17 = .ok (.ireturn, 1) := by decide +kernel
theorem dX1_testHolds_18 : decode cX1_testHolds 18 = .ok (.iload_n 0, 1) := by decide +kernel
theorem dX1_testHolds_19 : decode cX1_testHolds 19 = .ok (.bipush 100, 2) := by decide +kernel
theorem dX1_testHolds_21 : decode cX1_testHolds 21 = .ok (.idiv, 1) := by decide +kernel
theorem dX1_testHolds_22 : decode cX1_testHolds 22 = .ok (.iconst 3, 1) := by decide +kernel
theorem dX1_testHolds_23 : decode cX1_testHolds 23 = .ok (.irem, 1) := by decide +kernel
theorem dX1_testHolds_24 : decode cX1_testHolds 24 = .ok (.istore_n 3, 1) := by decide +kernel
theorem dX1_testHolds_25 : decode cX1_testHolds 25 = .ok (.iload_n 0, 1) := by decide +kernel
theorem dX1_testHolds_26 : decode cX1_testHolds 26 = .ok (.bipush 100, 2) := by decide +kernel
theorem dX1_testHolds_28 : decode cX1_testHolds 28 = .ok (.irem, 1) := by decide +kernel
theorem dX1_testHolds_29 : decode cX1_testHolds 29 = .ok (.istore 4, 2) := by decide +kernel
theorem dX1_testHolds_31 : decode cX1_testHolds 31 = .ok (.iload_n 3, 1) := by decide +kernel
theorem dX1_testHolds_32 : decode cX1_testHolds 32 = .ok (.ifCond .ne 17, 3) := by decide +kernel
theorem dX1_testHolds_35 : decode cX1_testHolds 35 = .ok (.aload_n 1, 1) := by decide +kernel
theorem dX1_testHolds_36 : decode cX1_testHolds 36 = .ok (.iload_n 2, 1) := by decide +kernel
theorem dX1_testHolds_37 : decode cX1_testHolds 37 = .ok (.iaload, 1) := by decide +kernel
theorem dX1_testHolds_38 : decode cX1_testHolds 38 = .ok (.iload 4, 2) := by decide +kernel
theorem dX1_testHolds_40 : decode cX1_testHolds 40 = .ok (.if_icmp .ge 7, 3) := by decide +kernel
theorem dX1_testHolds_43 : decode cX1_testHolds 43 = .ok (.iconst 1, 1) := by decide +kernel
theorem dX1_testHolds_44 : decode cX1_testHolds 44 = .ok (.goto 4, 3) := by decide +kernel
theorem dX1_testHolds_47 : decode cX1_testHolds 47 = .ok (.iconst 0, 1) := by decide +kernel
theorem dX1_testHolds_48 : decode cX1_testHolds 48 = .ok (.ireturn, 1) := by decide +kernel
theorem dX1_testHolds_49 : decode cX1_testHolds 49 = .ok (.iload_n 3, 1) := by decide +kernel
theorem dX1_testHolds_50 : decode cX1_testHolds 50 = .ok (.iconst 1, 1) := by decide +kernel
theorem dX1_testHolds_51 : decode cX1_testHolds 51 = .ok (.if_icmp .ne 19, 3) := by decide +kernel
theorem dX1_testHolds_54 : decode cX1_testHolds 54 = .ok (.aload_n 1, 1) := by decide +kernel
theorem dX1_testHolds_55 : decode cX1_testHolds 55 = .ok (.iload_n 2, 1) := by decide +kernel
theorem dX1_testHolds_56 : decode cX1_testHolds 56 = .ok (.iaload, 1) := by decide +kernel
theorem dX1_testHolds_57 : decode cX1_testHolds 57 = .ok (.iload 4, 2) := by decide +kernel
theorem dX1_testHolds_59 : decode cX1_testHolds 59 = .ok (.if_icmp .ne 7, 3) := by decide +kernel
theorem dX1_testHolds_62 : decode cX1_testHolds 62 = .ok (.iconst 1, 1) := by decide +kernel
theorem dX1_testHolds_63 : decode cX1_testHolds 63 = .ok (.goto 20, 3) := by decide +kernel
theorem dX1_testHolds_66 : decode cX1_testHolds 66 = .ok (.iconst 0, 1) := by decide +kernel
theorem dX1_testHolds_67 : decode cX1_testHolds 67 = .ok (.goto 16, 3) := by decide +kernel
theorem dX1_testHolds_70 : decode cX1_testHolds 70 = .ok (.aload_n 1, 1) := by decide +kernel
theorem dX1_testHolds_71 : decode cX1_testHolds 71 = .ok (.iload_n 2, 1) := by decide +kernel
theorem dX1_testHolds_72 : decode cX1_testHolds 72 = .ok (.iaload, 1) := by decide +kernel
theorem dX1_testHolds_73 : decode cX1_testHolds 73 = .ok (.iload 4, 2) := by decide +kernel
theorem dX1_testHolds_75 : decode cX1_testHolds 75 = .ok (.if_icmp .le 7, 3) := by decide +kernel
theorem dX1_testHolds_78 : decode cX1_testHolds 78 = .ok (.iconst 1, 1) := by decide +kernel
theorem dX1_testHolds_79 : decode cX1_testHolds 79 = .ok (.goto 4, 3) := by decide +kernel
theorem dX1_testHolds_82 : decode cX1_testHolds 82 = .ok (.iconst 0, 1) := by decide +kernel
theorem dX1_testHolds_83 : decode cX1_testHolds 83 = .ok (.ireturn, 1) := by decide +kernel
theorem dX2_init_0 : decode cX2_init 0 = .ok (.aload_n 0, 1) := by decide +kernel
theorem dX2_init_1 : decode cX2_init 1 = .ok (.invokespecial 3, 3) := by decide +kernel
theorem dX2_init_4 : decode cX2_init 4 = .ok (.aload_n 0, 1) := by decide +kernel
theorem dX2_init_5 : decode cX2_init 5 = .ok (.new 9, 3) := by decide +kernel
theorem dX2_init_8 : decode cX2_init 8 = .ok (.dup, 1) := by decide +kernel
theorem dX2_init_9 : decode cX2_init 9 = .ok (.iconst 0, 1) := by decide +kernel
theorem dX2_init_10 : decode cX2_init 10 = .ok (.anewarray 11, 3) := by decide +kernel
theorem dX2_init_13 : decode cX2_init 13 = .ok (.invokespecial 13, 3) := by decide +kernel
theorem dX2_init_16 : decode cX2_init 16 = .ok (.putfield 16, 3) := by decide +kernel
theorem dX2_init_19 : decode cX2_init 19 = .ok (.aload_n 0, 1) := by decide +kernel
theorem dX2_init_20 : decode cX2_init 20 = .ok (.new 22, 3) := by decide +kernel
theorem dX2_init_23 : decode cX2_init 23 = .ok (.dup, 1) := by decide +kernel
theorem dX2_init_24 : decode cX2_init 24 = .ok (.invokespecial 24, 3) := by decide +kernel
theorem dX2_init_27 : decode cX2_init 27 = .ok (.putfield 25, 3) := by decide +kernel
theorem dX2_init_30 : decode cX2_init 30 = .ok (.aload_n 0, 1) := by decide +kernel
theorem dX2_init_31 : decode cX2_init 31 = .ok (.bipush 12, 2) := by decide +kernel
theorem dX2_init_33 : decode cX2_init 33 = .ok (.newarray .int, 2) := by decide +kernel
theorem dX2_init_35 : decode cX2_init 35 = .ok (.putfield 29, 3) := by decide +kernel
theorem dX2_init_38 : decode cX2_init 38 = .ok (.aload_n 0, 1) := by decide +kernel
theorem dX2_init_39 : decode cX2_init 39 = .ok (.bipush 6, 2) := by decide +kernel
theorem dX2_init_41 : decode cX2_init 41 = .ok (.newarray .int, 2) := by decide +kernel
theorem dX2_init_43 : decode cX2_init 43 = .ok (.putfield 33, 3) := by decide +kernel
theorem dX2_init_46 : decode cX2_init 46 = .ok (.aload_n 0, 1) := by decide +kernel
theorem dX2_init_47 : decode cX2_init 47 = .ok (.bipush 6, 2) := by decide +kernel
theorem dX2_init_49 : decode cX2_init 49 = .ok (.newarray .int, 2) := by decide +kernel
theorem dX2_init_51 : decode cX2_init 51 = .ok (.putfield 36, 3) := by decide +kernel
theorem dX2_init_54 : decode cX2_init 54 = .ok (.return_, 1) := by decide +kernel
theorem dX2_begin_0 : decode cX2_begin 0 = .ok (.aload_n 0, 1) := by decide +kernel
theorem dX2_begin_1 : decode cX2_begin 1 = .ok (.aload_n 3, 1) := by decide +kernel
theorem dX2_begin_2 : decode cX2_begin 2 = .ok (.putfield 16, 3) := by decide +kernel
theorem dX2_begin_5 : decode cX2_begin 5 = .ok (.aload_n 0, 1) := by decide +kernel
theorem dX2_begin_6 : decode cX2_begin 6 = .ok (.getfield 25, 3) := by decide +kernel
theorem dX2_begin_9 : decode cX2_begin 9 = .ok (.aload_n 1, 1) := by decide +kernel
theorem dX2_begin_10 : decode cX2_begin 10 = .ok (.invokevirtual 39, 3) := by decide +kernel
theorem dX2_begin_13 : decode cX2_begin 13 = .ok (.aload_n 2, 1) := by decide +kernel
theorem dX2_begin_14 : decode cX2_begin 14 = .ok (.getfield 43, 3) := by decide +kernel
theorem dX2_begin_17 : decode cX2_begin 17 = .ok (.iconst 0, 1) := by decide +kernel
theorem dX2_begin_18 : decode cX2_begin 18 = .ok (.aload_n 0, 1) := by decide +kernel
theorem dX2_begin_19 : decode cX2_begin 19 = .ok (.getfield 29, 3) := by decide +kernel
theorem dX2_begin_22 : decode cX2_begin 22 = .ok (.iconst 0, 1) := by decide +kernel
theorem dX2_begin_23 : decode cX2_begin 23 = .ok (.bipush 12, 2) := by decide +kernel
theorem dX2_begin_25 : decode cX2_begin 25 = .ok (.invokestatic 46, 3) := by decide +kernel
theorem dX2_begin_28 : decode cX2_begin 28 = .ok (.aload_n 0, 1) := by decide +kernel
theorem dX2_begin_29 : decode cX2_begin 29 = .ok (.aload_n 2, 1) := by decide +kernel
theorem dX2_begin_30 : decode cX2_begin 30 = .ok (.getfield 52, 3) := by decide +kernel
theorem dX2_begin_33 : decode cX2_begin 33 = .ok (.putfield 56, 3) := by decide +kernel
theorem dX2_begin_36 : decode cX2_begin 36 = .ok (.aload_n 0, 1) := by decide +kernel
theorem dX2_begin_37 : decode cX2_begin 37 = .ok (.aload_n 2, 1) := by decide +kernel
theorem dX2_begin_38 : decode cX2_begin 38 = .ok (.getfield 57, 3) := by decide +kernel
theorem dX2_begin_41 : decode cX2_begin 41 = .ok (.putfield 60, 3) := by decide +kernel
theorem dX2_begin_44 : decode cX2_begin 44 = .ok (.aload_n 0, 1) := by decide +kernel
theorem dX2_begin_45 : decode cX2_begin 45 = .ok (.invokevirtual 61, 3) := by decide +kernel
theorem dX2_begin_48 : decode cX2_begin 48 = .ok (.return_, 1) := by decide +kernel
theorem dX2_settle_0 : decode cX2_settle 0 = .ok (.aload_n 0, 1) := by decide +kernel
theorem dX2_settle_1 : decode cX2_settle 1 = .ok (.getfield 25, 3) := by decide +kernel
theorem dX2_settle_4 : decode cX2_settle 4 = .ok (.aload_n 0, 1) := by decide +kernel
theorem dX2_settle_5 : decode cX2_settle 5 = .ok (.getfield 56, 3) := by decide +kernel
theorem dX2_settle_8 : decode cX2_settle 8 = .ok (.invokevirtual 64, 3) := by decide +kernel
theorem dX2_settle_11 : decode cX2_settle 11 = .ok (.astore_n 1, 1) := by decide +kernel
theorem dX2_settle_12 : decode cX2_settle 12 = .ok (.aload_n 0, 1) := by decide +kernel
theorem dX2_settle_13 : decode cX2_settle 13 = .ok (.aload_n 0, 1) := by decide +kernel
theorem dX2_settle_14 : decode cX2_settle 14 = .ok (.getfield 25, 3) := by decide +kernel
theorem dX2_settle_17 : decode cX2_settle 17 = .ok (.aload_n 0, 1) := by decide +kernel
theorem dX2_settle_18 : decode cX2_settle 18 = .ok (.getfield 16, 3) := by decide +kernel
theorem dX2_settle_21 : decode cX2_settle 21 = .ok (.getfield 68, 3) := by decide +kernel
theorem dX2_settle_24 : decode cX2_settle 24 = .ok (.ifCond .eq 15, 3) := by decide +kernel
theorem dX2_settle_27 : decode cX2_settle 27 = .ok (.aload_n 0, 1) := by decide +kernel
theorem dX2_settle_28 : decode cX2_settle 28 = .ok (.getfield 16, 3) := by decide +kernel
theorem dX2_settle_31 : decode cX2_settle 31 = .ok (.iconst 0, 1) := by decide +kernel
theorem dX2_settle_32 : decode cX2_settle 32 = .ok (.aload_n 1, 1) := by decide +kernel
theorem dX2_settle_33 : decode cX2_settle 33 = .ok (.invokevirtual 74, 3) := by decide +kernel
theorem dX2_settle_36 : decode cX2_settle 36 = .ok (.goto 4, 3) := by decide +kernel
theorem dX2_settle_39 : decode cX2_settle 39 = .ok (.iconst 1, 1) := by decide +kernel
theorem dX2_settle_40 : decode cX2_settle 40 = .ok (.invokevirtual 78, 3) := by decide +kernel
theorem dX2_settle_43 : decode cX2_settle 43 = .ok (.putfield 82, 3) := by decide +kernel
theorem dX2_settle_46 : decode cX2_settle 46 = .ok (.aload_n 0, 1) := by decide +kernel
theorem dX2_settle_47 : decode cX2_settle 47 = .ok (.aload_n 0, 1) := by decide +kernel
theorem dX2_settle_48 : decode cX2_settle 48 = .ok (.getfield 25, 3) := by decide +kernel
theorem dX2_settle_51 : decode cX2_settle 51 = .ok (.invokevirtual 84, 3) := by decide +kernel
theorem dX2_settle_54 : decode cX2_settle 54 = .ok (.putfield 88, 3) := by decide +kernel
theorem dX2_settle_57 : decode cX2_settle 57 = .ok (.aload_n 0, 1) := by decide +kernel
theorem dX2_settle_58 : decode cX2_settle 58 = .ok (.aload_n 0, 1) := by decide +kernel
theorem dX2_settle_59 : decode cX2_settle 59 = .ok (.getfield 25, 3) := by decide +kernel
theorem dX2_settle_62 : decode cX2_settle 62 = .ok (.aload_n 0, 1) := by decide +kernel
theorem dX2_settle_63 : decode cX2_settle 63 = .ok (.getfield 60, 3) := by decide +kernel
theorem dX2_settle_66 : decode cX2_settle 66 = .ok (.invokevirtual 90, 3) := by decide +kernel
theorem dX2_settle_69 : decode cX2_settle 69 = .ok (.putfield 93, 3) := by decide +kernel
theorem dX2_settle_72 : decode cX2_settle 72 = .ok (.return_, 1) := by decide +kernel
theorem dX2_pass_0 : decode cX2_pass 0 = .ok (.aload_n 0, 1) := by decide +kernel
theorem dX2_pass_1 : decode cX2_pass 1 = .ok (.getfield 25, 3) := by decide +kernel
theorem dX2_pass_4 : decode cX2_pass 4 = .ok (.iload_n 1, 1) := by decide +kernel
theorem dX2_pass_5 : decode cX2_pass 5 = .ok (.invokevirtual 95, 3) := by decide +kernel
theorem dX2_pass_8 : decode cX2_pass 8 = .ok (.aload_n 0, 1) := by decide +kernel
theorem dX2_pass_9 : decode cX2_pass 9 = .ok (.getfield 25, 3) := by decide +kernel
theorem dX2_pass_12 : decode cX2_pass 12 = .ok (.aload_n 0, 1) := by decide +kernel
theorem dX2_pass_13 : decode cX2_pass 13 = .ok (.getfield 16, 3) := by decide +kernel
theorem dX2_pass_16 : decode cX2_pass 16 = .ok (.iconst 1, 1) := by decide +kernel
theorem dX2_pass_17 : decode cX2_pass 17 = .ok (.aload_n 0, 1) := by decide +kernel
theorem dX2_pass_18 : decode cX2_pass 18 = .ok (.getfield 25, 3) := by decide +kernel
theorem dX2_pass_21 : decode cX2_pass 21 = .ok (.aload_n 0, 1) := by decide +kernel
theorem dX2_pass_22 : decode cX2_pass 22 = .ok (.getfield 56, 3) := by decide +kernel
theorem dX2_pass_25 : decode cX2_pass 25 = .ok (.invokevirtual 64, 3) := by decide +kernel
theorem dX2_pass_28 : decode cX2_pass 28 = .ok (.invokevirtual 74, 3) := by decide +kernel
theorem dX2_pass_31 : decode cX2_pass 31 = .ok (.invokevirtual 99, 3) := by decide +kernel
theorem dX2_pass_34 : decode cX2_pass 34 = .ok (.aload_n 0, 1) := by decide +kernel
theorem dX2_pass_35 : decode cX2_pass 35 = .ok (.dup, 1) := by decide +kernel
theorem dX2_pass_36 : decode cX2_pass 36 = .ok (.getfield 56, 3) := by decide +kernel
theorem dX2_pass_39 : decode cX2_pass 39 = .ok (.iconst 1, 1) := by decide +kernel
theorem dX2_pass_40 : decode cX2_pass 40 = .ok (.iadd, 1) := by decide +kernel
theorem dX2_pass_41 : decode cX2_pass 41 = .ok (.putfield 56, 3) := by decide +kernel
theorem dX2_pass_44 : decode cX2_pass 44 = .ok (.aload_n 0, 1) := by decide +kernel
theorem dX2_pass_45 : decode cX2_pass 45 = .ok (.aload_n 0, 1) := by decide +kernel
theorem dX2_pass_46 : decode cX2_pass 46 = .ok (.getfield 60, 3) := by decide +kernel
theorem dX2_pass_49 : decode cX2_pass 49 = .ok (.aload_n 0, 1) := by decide +kernel
theorem dX2_pass_50 : decode cX2_pass 50 = .ok (.getfield 56, 3) := by decide +kernel
theorem dX2_pass_53 : decode cX2_pass 53 = .ok (.aload_n 0, 1) := by decide +kernel
theorem dX2_pass_54 : decode cX2_pass 54 = .ok (.getfield 16, 3) := by decide +kernel
theorem dX2_pass_57 : decode cX2_pass 57 = .ok (.getfield 102, 3) := by decide +kernel
theorem dX2_pass_60 : decode cX2_pass 60 = .ok (.invokestatic 105, 3) := by decide +kernel
theorem dX2_pass_63 : decode cX2_pass 63 = .ok (.putfield 60, 3) := by decide +kernel
theorem dX2_pass_66 : decode cX2_pass 66 = .ok (.return_, 1) := by decide +kernel
theorem dX2_goInAir_0 : decode cX2_goInAir 0 = .ok (.aload_n 0, 1) := by decide +kernel
theorem dX2_goInAir_1 : decode cX2_goInAir 1 = .ok (.iload_n 1, 1) := by decide +kernel
theorem dX2_goInAir_2 : decode cX2_goInAir 2 = .ok (.invokevirtual 109, 3) := by decide +kernel
theorem dX2_goInAir_5 : decode cX2_goInAir 5 = .ok (.aload_n 0, 1) := by decide +kernel
theorem dX2_goInAir_6 : decode cX2_goInAir 6 = .ok (.invokevirtual 61, 3) := by decide +kernel
theorem dX2_goInAir_9 : decode cX2_goInAir 9 = .ok (.return_, 1) := by decide +kernel
theorem dX2_goOn_0 : decode cX2_goOn 0 = .ok (.iconst 0, 1) := by decide +kernel
theorem dX2_goOn_1 : decode cX2_goOn 1 = .ok (.istore_n 2, 1) := by decide +kernel
theorem dX2_goOn_2 : decode cX2_goOn 2 = .ok (.iload_n 2, 1) := by decide +kernel
theorem dX2_goOn_3 : decode cX2_goOn 3 = .ok (.iload_n 1, 1) := by decide +kernel
theorem dX2_goOn_4 : decode cX2_goOn 4 = .ok (.if_icmp .ge 25, 3) := by decide +kernel
theorem dX2_goOn_7 : decode cX2_goOn 7 = .ok (.aload_n 0, 1) := by decide +kernel
theorem dX2_goOn_8 : decode cX2_goOn 8 = .ok (.aload_n 0, 1) := by decide +kernel
theorem dX2_goOn_9 : decode cX2_goOn 9 = .ok (.getfield 29, 3) := by decide +kernel
theorem dX2_goOn_12 : decode cX2_goOn 12 = .ok (.aload_n 0, 1) := by decide +kernel
theorem dX2_goOn_13 : decode cX2_goOn 13 = .ok (.getfield 56, 3) := by decide +kernel
theorem dX2_goOn_16 : decode cX2_goOn 16 = .ok (.bipush 12, 2) := by decide +kernel
theorem dX2_goOn_18 : decode cX2_goOn 18 = .ok (.irem, 1) := by decide +kernel
theorem dX2_goOn_19 : decode cX2_goOn 19 = .ok (.iaload, 1) := by decide +kernel
theorem dX2_goOn_20 : decode cX2_goOn 20 = .ok (.invokevirtual 109, 3) := by decide +kernel
theorem dX2_goOn_23 : decode cX2_goOn 23 = .ok (.iinc 2 1, 3) := by decide +kernel
theorem dX2_goOn_26 : decode cX2_goOn 26 = .ok (.goto (-24), 3) := by decide +kernel
theorem dX2_goOn_29 : decode cX2_goOn 29 = .ok (.aload_n 0, 1) := by decide +kernel
theorem dX2_goOn_30 : decode cX2_goOn 30 = .ok (.invokevirtual 61, 3) := by decide +kernel
theorem dX2_goOn_33 : decode cX2_goOn 33 = .ok (.return_, 1) := by decide +kernel
theorem dX2_goThrough_0 : decode cX2_goThrough 0 = .ok (.iconst 0, 1) := by decide +kernel
theorem dX2_goThrough_1 : decode cX2_goThrough 1 = .ok (.istore_n 2, 1) := by decide +kernel
theorem dX2_goThrough_2 : decode cX2_goThrough 2 = .ok (.iload_n 2, 1) := by decide +kernel
theorem dX2_goThrough_3 : decode cX2_goThrough 3 = .ok (.bipush 6, 2) := by decide +kernel
theorem dX2_goThrough_5 : decode cX2_goThrough 5 = .ok (.if_icmp .ge 31, 3) := by decide +kernel
theorem dX2_goThrough_8 : decode cX2_goThrough 8 = .ok (.aload_n 0, 1) := by decide +kernel
theorem dX2_goThrough_9 : decode cX2_goThrough 9 = .ok (.getfield 33, 3) := by decide +kernel
theorem dX2_goThrough_12 : decode cX2_goThrough 12 = .ok (.iload_n 2, 1) := by decide +kernel
theorem dX2_goThrough_13 : decode cX2_goThrough 13 = .ok (.aload_n 0, 1) := by decide +kernel
theorem dX2_goThrough_14 : decode cX2_goThrough 14 = .ok (.iload_n 2, 1) := by decide +kernel
theorem dX2_goThrough_15 : decode cX2_goThrough 15 = .ok (.invokevirtual 112, 3) := by decide +kernel
theorem dX2_goThrough_18 : decode cX2_goThrough 18 = .ok (.iastore, 1) := by decide +kernel
theorem dX2_goThrough_19 : decode cX2_goThrough 19 = .ok (.aload_n 0, 1) := by decide +kernel
theorem dX2_goThrough_20 : decode cX2_goThrough 20 = .ok (.getfield 36, 3) := by decide +kernel
theorem dX2_goThrough_23 : decode cX2_goThrough 23 = .ok (.iload_n 2, 1) := by decide +kernel
theorem dX2_goThrough_24 : decode cX2_goThrough 24 = .ok (.aload_n 0, 1) := by decide +kernel
theorem dX2_goThrough_25 : decode cX2_goThrough 25 = .ok (.iload_n 2, 1) := by decide +kernel
theorem dX2_goThrough_26 : decode cX2_goThrough 26 = .ok (.invokevirtual 112, 3) := by decide +kernel
theorem dX2_goThrough_29 : decode cX2_goThrough 29 = .ok (.iastore, 1) := by decide +kernel
theorem dX2_goThrough_30 : decode cX2_goThrough 30 = .ok (.iinc 2 1, 3) := by decide +kernel
theorem dX2_goThrough_33 : decode cX2_goThrough 33 = .ok (.goto (-31), 3) := by decide +kernel
theorem dX2_goThrough_36 : decode cX2_goThrough 36 = .ok (.iconst 0, 1) := by decide +kernel
theorem dX2_goThrough_37 : decode cX2_goThrough 37 = .ok (.istore_n 2, 1) := by decide +kernel
theorem dX2_goThrough_38 : decode cX2_goThrough 38 = .ok (.iload_n 2, 1) := by decide +kernel
theorem dX2_goThrough_39 : decode cX2_goThrough 39 = .ok (.iload_n 1, 1) := by decide +kernel
theorem dX2_goThrough_40 : decode cX2_goThrough 40 = .ok (.if_icmp .ge 83, 3) := by decide +kernel
theorem dX2_goThrough_43 : decode cX2_goThrough 43 = .ok (.aload_n 0, 1) := by decide +kernel
theorem dX2_goThrough_44 : decode cX2_goThrough 44 = .ok (.aload_n 0, 1) := by decide +kernel
theorem dX2_goThrough_45 : decode cX2_goThrough 45 = .ok (.getfield 29, 3) := by decide +kernel
theorem dX2_goThrough_48 : decode cX2_goThrough 48 = .ok (.aload_n 0, 1) := by decide +kernel
theorem dX2_goThrough_49 : decode cX2_goThrough 49 = .ok (.getfield 56, 3) := by decide +kernel
theorem dX2_goThrough_52 : decode cX2_goThrough 52 = .ok (.bipush 12, 2) := by decide +kernel
theorem dX2_goThrough_54 : decode cX2_goThrough 54 = .ok (.irem, 1) := by decide +kernel
theorem dX2_goThrough_55 : decode cX2_goThrough 55 = .ok (.iaload, 1) := by decide +kernel
theorem dX2_goThrough_56 : decode cX2_goThrough 56 = .ok (.invokevirtual 109, 3) := by decide +kernel
theorem dX2_goThrough_59 : decode cX2_goThrough 59 = .ok (.aload_n 0, 1) := by decide +kernel
theorem dX2_goThrough_60 : decode cX2_goThrough 60 = .ok (.invokevirtual 61, 3) := by decide +kernel
theorem dX2_goThrough_63 : decode cX2_goThrough 63 = .ok (.iconst 0, 1) := by decide +kernel
theorem dX2_goThrough_64 : decode cX2_goThrough 64 = .ok (.istore_n 3, 1) := by decide +kernel
theorem dX2_goThrough_65 : decode cX2_goThrough 65 = .ok (.iload_n 3, 1) := by decide +kernel
theorem dX2_goThrough_66 : decode cX2_goThrough 66 = .ok (.bipush 6, 2) := by decide +kernel
theorem dX2_goThrough_68 : decode cX2_goThrough 68 = .ok (.if_icmp .ge 49, 3) := by decide +kernel
theorem dX2_goThrough_71 : decode cX2_goThrough 71 = .ok (.aload_n 0, 1) := by decide +kernel
theorem dX2_goThrough_72 : decode cX2_goThrough 72 = .ok (.getfield 33, 3) := by decide +kernel
theorem dX2_goThrough_75 : decode cX2_goThrough 75 = .ok (.iload_n 3, 1) := by decide +kernel
theorem dX2_goThrough_76 : decode cX2_goThrough 76 = .ok (.aload_n 0, 1) := by decide +kernel
theorem dX2_goThrough_77 : decode cX2_goThrough 77 = .ok (.getfield 33, 3) := by decide +kernel
theorem dX2_goThrough_80 : decode cX2_goThrough 80 = .ok (.iload_n 3, 1) := by decide +kernel
theorem dX2_goThrough_81 : decode cX2_goThrough 81 = .ok (.iaload, 1) := by decide +kernel
theorem dX2_goThrough_82 : decode cX2_goThrough 82 = .ok (.aload_n 0, 1) := by decide +kernel
theorem dX2_goThrough_83 : decode cX2_goThrough 83 = .ok (.iload_n 3, 1) := by decide +kernel
theorem dX2_goThrough_84 : decode cX2_goThrough 84 = .ok (.invokevirtual 112, 3) := by decide +kernel
theorem dX2_goThrough_87 : decode cX2_goThrough 87 = .ok (.invokestatic 115, 3) := by decide +kernel
theorem dX2_goThrough_90 : decode cX2_goThrough 90 = .ok (.iastore, 1) := by decide +kernel
theorem dX2_goThrough_91 : decode cX2_goThrough 91 = .ok (.aload_n 0, 1) := by decide +kernel
theorem dX2_goThrough_92 : decode cX2_goThrough 92 = .ok (.getfield 36, 3) := by decide +kernel
theorem dX2_goThrough_95 : decode cX2_goThrough 95 = .ok (.iload_n 3, 1) := by decide +kernel
theorem dX2_goThrough_96 : decode cX2_goThrough 96 = .ok (.aload_n 0, 1) := by decide +kernel
theorem dX2_goThrough_97 : decode cX2_goThrough 97 = .ok (.getfield 36, 3) := by decide +kernel
theorem dX2_goThrough_100 : decode cX2_goThrough 100 = .ok (.iload_n 3, 1) := by decide +kernel
theorem dX2_goThrough_101 : decode cX2_goThrough 101 = .ok (.iaload, 1) := by decide +kernel
theorem dX2_goThrough_102 : decode cX2_goThrough 102 = .ok (.aload_n 0, 1) := by decide +kernel
theorem dX2_goThrough_103 : decode cX2_goThrough 103 = .ok (.iload_n 3, 1) := by decide +kernel
theorem dX2_goThrough_104 : decode cX2_goThrough 104 = .ok (.invokevirtual 112, 3) := by decide +kernel
theorem dX2_goThrough_107 : decode cX2_goThrough 107 = .ok (.invokestatic 121, 3) := by decide +kernel
theorem dX2_goThrough_110 : decode cX2_goThrough 110 = .ok (.iastore, 1) := by decide +kernel
theorem dX2_goThrough_111 : decode cX2_goThrough 111 = .ok (.iinc 3 1, 3) := by decide +kernel
theorem dX2_goThrough_114 : decode cX2_goThrough 114 = .ok (.goto (-49), 3) := by decide +kernel
theorem dX2_goThrough_117 : decode cX2_goThrough 117 = .ok (.iinc 2 1, 3) := by decide +kernel
theorem dX2_goThrough_120 : decode cX2_goThrough 120 = .ok (.goto (-82), 3) := by decide +kernel
theorem dX2_goThrough_123 : decode cX2_goThrough 123 = .ok (.return_, 1) := by decide +kernel
theorem dX2_gap_0 : decode cX2_gap 0 = .ok (.iload_n 1, 1) := by decide +kernel
theorem dX2_gap_1 : decode cX2_gap 1 = .ok (.invokestatic 124, 3) := by decide +kernel
theorem dX2_gap_4 : decode cX2_gap 4 = .ok (.ifCond .eq 43, 3) := by decide +kernel
theorem dX2_gap_7 : decode cX2_gap 7 = .ok (.aload_n 0, 1) := by decide +kernel
theorem dX2_gap_8 : decode cX2_gap 8 = .ok (.getfield 25, 3) := by decide +kernel
theorem dX2_gap_11 : decode cX2_gap 11 = .ok (.getfield 128, 3) := by decide +kernel
theorem dX2_gap_14 : decode cX2_gap 14 = .ok (.iload_n 1, 1) := by decide +kernel
theorem dX2_gap_15 : decode cX2_gap 15 = .ok (.iaload, 1) := by decide +kernel
theorem dX2_gap_16 : decode cX2_gap 16 = .ok (.iload_n 1, 1) := by decide +kernel
theorem dX2_gap_17 : decode cX2_gap 17 = .ok (.aload_n 0, 1) := by decide +kernel
theorem dX2_gap_18 : decode cX2_gap 18 = .ok (.getfield 82, 3) := by decide +kernel
theorem dX2_gap_21 : decode cX2_gap 21 = .ok (.aload_n 0, 1) := by decide +kernel
theorem dX2_gap_22 : decode cX2_gap 22 = .ok (.getfield 93, 3) := by decide +kernel
theorem dX2_gap_25 : decode cX2_gap 25 = .ok (.aload_n 0, 1) := by decide +kernel
theorem dX2_gap_26 : decode cX2_gap 26 = .ok (.getfield 88, 3) := by decide +kernel
theorem dX2_gap_29 : decode cX2_gap 29 = .ok (.aload_n 0, 1) := by decide +kernel
theorem dX2_gap_30 : decode cX2_gap 30 = .ok (.getfield 60, 3) := by decide +kernel
theorem dX2_gap_33 : decode cX2_gap 33 = .ok (.aload_n 0, 1) := by decide +kernel
theorem dX2_gap_34 : decode cX2_gap 34 = .ok (.getfield 25, 3) := by decide +kernel
theorem dX2_gap_37 : decode cX2_gap 37 = .ok (.getfield 131, 3) := by decide +kernel
theorem dX2_gap_40 : decode cX2_gap 40 = .ok (.invokestatic 134, 3) := by decide +kernel
theorem dX2_gap_43 : decode cX2_gap 43 = .ok (.isub, 1) := by decide +kernel
theorem dX2_gap_44 : decode cX2_gap 44 = .ok (.goto 4, 3) := by decide +kernel
theorem dX2_gap_47 : decode cX2_gap 47 = .ok (.iconst 0, 1) := by decide +kernel
theorem dX2_gap_48 : decode cX2_gap 48 = .ok (.ireturn, 1) := by decide +kernel
theorem dX2_firstRubbing_0 : decode cX2_firstRubbing 0 = .ok (.iconst 0, 1) := by decide +kernel
theorem dX2_firstRubbing_1 : decode cX2_firstRubbing 1 = .ok (.istore_n 1, 1) := by decide +kernel
theorem dX2_firstRubbing_2 : decode cX2_firstRubbing 2 = .ok (.iload_n 1, 1) := by decide +kernel
theorem dX2_firstRubbing_3 : decode cX2_firstRubbing 3 = .ok (.bipush 6, 2) := by decide +kernel
theorem dX2_firstRubbing_5 : decode cX2_firstRubbing 5 = .ok (.if_icmp .ge 19, 3) := by decide +kernel
theorem dX2_firstRubbing_8 : decode cX2_firstRubbing 8 = .ok (.aload_n 0, 1) := by decide +kernel
theorem dX2_firstRubbing_9 : decode cX2_firstRubbing 9 = .ok (.iload_n 1, 1) := by decide +kernel
theorem dX2_firstRubbing_10 : decode cX2_firstRubbing 10 = .ok (.invokevirtual 112, 3) := by decide +kernel
theorem dX2_firstRubbing_13 : decode cX2_firstRubbing 13 = .ok (.ifCond .ge 5, 3) := by decide +kernel
theorem dX2_firstRubbing_16 : decode cX2_firstRubbing 16 = .ok (.iload_n 1, 1) := by decide +kernel
theorem dX2_firstRubbing_17 : decode cX2_firstRubbing 17 = .ok (.ireturn, 1) := by decide +kernel
theorem dX2_firstRubbing_18 : decode cX2_firstRubbing 18 = .ok (.iinc 1 1, 3) := by decide +kernel
theorem dX2_firstRubbing_21 : decode cX2_firstRubbing 21 = .ok (.goto (-19), 3) := by decide +kernel
theorem dX2_firstRubbing_24 : decode cX2_firstRubbing 24 = .ok (.bipush (-5), 2) := by decide +kernel
theorem dX2_firstRubbing_26 : decode cX2_firstRubbing 26 = .ok (.ireturn, 1) := by decide +kernel
theorem dX2_rubbing_0 : decode cX2_rubbing 0 = .ok (.iconst 0, 1) := by decide +kernel
theorem dX2_rubbing_1 : decode cX2_rubbing 1 = .ok (.istore_n 1, 1) := by decide +kernel
theorem dX2_rubbing_2 : decode cX2_rubbing 2 = .ok (.iconst 0, 1) := by decide +kernel
theorem dX2_rubbing_3 : decode cX2_rubbing 3 = .ok (.istore_n 2, 1) := by decide +kernel
theorem dX2_rubbing_4 : decode cX2_rubbing 4 = .ok (.iload_n 2, 1) := by decide +kernel
theorem dX2_rubbing_5 : decode cX2_rubbing 5 = .ok (.bipush 6, 2) := by decide +kernel
theorem dX2_rubbing_7 : decode cX2_rubbing 7 = .ok (.if_icmp .ge 27, 3) := by decide +kernel
theorem dX2_rubbing_10 : decode cX2_rubbing 10 = .ok (.iload_n 1, 1) := by decide +kernel
theorem dX2_rubbing_11 : decode cX2_rubbing 11 = .ok (.aload_n 0, 1) := by decide +kernel
theorem dX2_rubbing_12 : decode cX2_rubbing 12 = .ok (.iload_n 2, 1) := by decide +kernel
theorem dX2_rubbing_13 : decode cX2_rubbing 13 = .ok (.invokevirtual 112, 3) := by decide +kernel
theorem dX2_rubbing_16 : decode cX2_rubbing 16 = .ok (.ifCond .ge 9, 3) := by decide +kernel
theorem dX2_rubbing_19 : decode cX2_rubbing 19 = .ok (.iconst 1, 1) := by decide +kernel
theorem dX2_rubbing_20 : decode cX2_rubbing 20 = .ok (.iload_n 2, 1) := by decide +kernel
theorem dX2_rubbing_21 : decode cX2_rubbing 21 = .ok (.ishl, 1) := by decide +kernel
theorem dX2_rubbing_22 : decode cX2_rubbing 22 = .ok (.goto 4, 3) := by decide +kernel
theorem dX2_rubbing_25 : decode cX2_rubbing 25 = .ok (.iconst 0, 1) := by decide +kernel
theorem dX2_rubbing_26 : decode cX2_rubbing 26 = .ok (.ior, 1) := by decide +kernel
theorem dX2_rubbing_27 : decode cX2_rubbing 27 = .ok (.istore_n 1, 1) := by decide +kernel
theorem dX2_rubbing_28 : decode cX2_rubbing 28 = .ok (.iinc 2 1, 3) := by decide +kernel
theorem dX2_rubbing_31 : decode cX2_rubbing 31 = .ok (.goto (-27), 3) := by decide +kernel
theorem dX2_rubbing_34 : decode cX2_rubbing 34 = .ok (.iload_n 1, 1) := by decide +kernel
theorem dX2_rubbing_35 : decode cX2_rubbing 35 = .ok (.ireturn, 1) := by decide +kernel
theorem dX2_draughty_0 : decode cX2_draughty 0 = .ok (.iconst 0, 1) := by decide +kernel
theorem dX2_draughty_1 : decode cX2_draughty 1 = .ok (.istore_n 1, 1) := by decide +kernel
theorem dX2_draughty_2 : decode cX2_draughty 2 = .ok (.iconst 0, 1) := by decide +kernel
theorem dX2_draughty_3 : decode cX2_draughty 3 = .ok (.istore_n 2, 1) := by decide +kernel
theorem dX2_draughty_4 : decode cX2_draughty 4 = .ok (.iload_n 2, 1) := by decide +kernel
theorem dX2_draughty_5 : decode cX2_draughty 5 = .ok (.bipush 6, 2) := by decide +kernel
theorem dX2_draughty_7 : decode cX2_draughty 7 = .ok (.if_icmp .ge 34, 3) := by decide +kernel
theorem dX2_draughty_10 : decode cX2_draughty 10 = .ok (.iload_n 1, 1) := by decide +kernel
theorem dX2_draughty_11 : decode cX2_draughty 11 = .ok (.aload_n 0, 1) := by decide +kernel
theorem dX2_draughty_12 : decode cX2_draughty 12 = .ok (.iload_n 2, 1) := by decide +kernel
theorem dX2_draughty_13 : decode cX2_draughty 13 = .ok (.invokevirtual 112, 3) := by decide +kernel
theorem dX2_draughty_16 : decode cX2_draughty 16 = .ok (.aload_n 0, 1) := by decide +kernel
theorem dX2_draughty_17 : decode cX2_draughty 17 = .ok (.getfield 16, 3) := by decide +kernel
theorem dX2_draughty_20 : decode cX2_draughty 20 = .ok (.getfield 138, 3) := by decide +kernel
theorem dX2_draughty_23 : decode cX2_draughty 23 = .ok (.if_icmp .le 9, 3) := by decide +kernel
theorem dX2_draughty_26 : decode cX2_draughty 26 = .ok (.iconst 1, 1) := by decide +kernel
theorem dX2_draughty_27 : decode cX2_draughty 27 = .ok (.iload_n 2, 1) := by decide +kernel
theorem dX2_draughty_28 : decode cX2_draughty 28 = .ok (.ishl, 1) := by decide +kernel
theorem dX2_draughty_29 : decode cX2_draughty 29 = .ok (.goto 4, 3) := by decide +kernel
theorem dX2_draughty_32 : decode cX2_draughty 32 = .ok (.iconst 0, 1) := by decide +kernel
theorem dX2_draughty_33 : decode cX2_draughty 33 = .ok (.ior, 1) := by decide +kernel
theorem dX2_draughty_34 : decode cX2_draughty 34 = .ok (.istore_n 1, 1) := by decide +kernel
theorem dX2_draughty_35 : decode cX2_draughty 35 = .ok (.iinc 2 1, 3) := by decide +kernel
theorem dX2_draughty_38 : decode cX2_draughty 38 = .ok (.goto (-34), 3) := by decide +kernel
theorem dX2_draughty_41 : decode cX2_draughty 41 = .ok (.iload_n 1, 1) := by decide +kernel
theorem dX2_draughty_42 : decode cX2_draughty 42 = .ok (.ireturn, 1) := by decide +kernel
theorem dX2_rubsWith_0 : decode cX2_rubsWith 0 = .ok (.iconst 0, 1) := by decide +kernel
theorem dX2_rubsWith_1 : decode cX2_rubsWith 1 = .ok (.istore_n 2, 1) := by decide +kernel
theorem dX2_rubsWith_2 : decode cX2_rubsWith 2 = .ok (.iconst 0, 1) := by decide +kernel
theorem dX2_rubsWith_3 : decode cX2_rubsWith 3 = .ok (.istore_n 3, 1) := by decide +kernel
theorem dX2_rubsWith_4 : decode cX2_rubsWith 4 = .ok (.iload_n 3, 1) := by decide +kernel
theorem dX2_rubsWith_5 : decode cX2_rubsWith 5 = .ok (.bipush 6, 2) := by decide +kernel
theorem dX2_rubsWith_7 : decode cX2_rubsWith 7 = .ok (.if_icmp .ge 56, 3) := by decide +kernel
theorem dX2_rubsWith_10 : decode cX2_rubsWith 10 = .ok (.iload_n 3, 1) := by decide +kernel
theorem dX2_rubsWith_11 : decode cX2_rubsWith 11 = .ok (.aload_n 1, 1) := by decide +kernel
theorem dX2_rubsWith_12 : decode cX2_rubsWith 12 = .ok (.arraylength, 1) := by decide +kernel
theorem dX2_rubsWith_13 : decode cX2_rubsWith 13 = .ok (.if_icmp .ge 50, 3) := by decide +kernel
theorem dX2_rubsWith_16 : decode cX2_rubsWith 16 = .ok (.iload_n 2, 1) := by decide +kernel
theorem dX2_rubsWith_17 : decode cX2_rubsWith 17 = .ok (.aload_n 1, 1) := by decide +kernel
theorem dX2_rubsWith_18 : decode cX2_rubsWith 18 = .ok (.iload_n 3, 1) := by decide +kernel
theorem dX2_rubsWith_19 : decode cX2_rubsWith 19 = .ok (.iaload, 1) := by decide +kernel
theorem dX2_rubsWith_20 : decode cX2_rubsWith 20 = .ok (.iload_n 3, 1) := by decide +kernel
theorem dX2_rubsWith_21 : decode cX2_rubsWith 21 = .ok (.aload_n 0, 1) := by decide +kernel
theorem dX2_rubsWith_22 : decode cX2_rubsWith 22 = .ok (.getfield 82, 3) := by decide +kernel
theorem dX2_rubsWith_25 : decode cX2_rubsWith 25 = .ok (.aload_n 0, 1) := by decide +kernel
theorem dX2_rubsWith_26 : decode cX2_rubsWith 26 = .ok (.getfield 93, 3) := by decide +kernel
theorem dX2_rubsWith_29 : decode cX2_rubsWith 29 = .ok (.aload_n 0, 1) := by decide +kernel
theorem dX2_rubsWith_30 : decode cX2_rubsWith 30 = .ok (.getfield 88, 3) := by decide +kernel
theorem dX2_rubsWith_33 : decode cX2_rubsWith 33 = .ok (.aload_n 0, 1) := by decide +kernel
theorem dX2_rubsWith_34 : decode cX2_rubsWith 34 = .ok (.getfield 60, 3) := by decide +kernel
theorem dX2_rubsWith_37 : decode cX2_rubsWith 37 = .ok (.aload_n 0, 1) := by decide +kernel
theorem dX2_rubsWith_38 : decode cX2_rubsWith 38 = .ok (.getfield 25, 3) := by decide +kernel
theorem dX2_rubsWith_41 : decode cX2_rubsWith 41 = .ok (.getfield 131, 3) := by decide +kernel
theorem dX2_rubsWith_44 : decode cX2_rubsWith 44 = .ok (.invokestatic 134, 3) := by decide +kernel
theorem dX2_rubsWith_47 : decode cX2_rubsWith 47 = .ok (.if_icmp .ge 7, 3) := by decide +kernel
theorem dX2_rubsWith_50 : decode cX2_rubsWith 50 = .ok (.iconst 1, 1) := by decide +kernel
theorem dX2_rubsWith_51 : decode cX2_rubsWith 51 = .ok (.goto 4, 3) := by decide +kernel
theorem dX2_rubsWith_54 : decode cX2_rubsWith 54 = .ok (.iconst 0, 1) := by decide +kernel
theorem dX2_rubsWith_55 : decode cX2_rubsWith 55 = .ok (.iadd, 1) := by decide +kernel
theorem dX2_rubsWith_56 : decode cX2_rubsWith 56 = .ok (.istore_n 2, 1) := by decide +kernel
theorem dX2_rubsWith_57 : decode cX2_rubsWith 57 = .ok (.iinc 3 1, 3) := by decide +kernel
theorem dX2_rubsWith_60 : decode cX2_rubsWith 60 = .ok (.goto (-56), 3) := by decide +kernel
theorem dX2_rubsWith_63 : decode cX2_rubsWith 63 = .ok (.iload_n 2, 1) := by decide +kernel
theorem dX2_rubsWith_64 : decode cX2_rubsWith 64 = .ok (.ireturn, 1) := by decide +kernel
theorem dX2_missing_0 : decode cX2_missing 0 = .ok (.iconst 0, 1) := by decide +kernel
theorem dX2_missing_1 : decode cX2_missing 1 = .ok (.aload_n 0, 1) := by decide +kernel
theorem dX2_missing_2 : decode cX2_missing 2 = .ok (.getfield 33, 3) := by decide +kernel
theorem dX2_missing_5 : decode cX2_missing 5 = .ok (.iload_n 1, 1) := by decide +kernel
theorem dX2_missing_6 : decode cX2_missing 6 = .ok (.iaload, 1) := by decide +kernel
theorem dX2_missing_7 : decode cX2_missing 7 = .ok (.ineg, 1) := by decide +kernel
theorem dX2_missing_8 : decode cX2_missing 8 = .ok (.invokestatic 121, 3) := by decide +kernel
theorem dX2_missing_11 : decode cX2_missing 11 = .ok (.ireturn, 1) := by decide +kernel
theorem dX2_missingSpots_0 : decode cX2_missingSpots 0 = .ok (.iconst 0, 1) := by decide +kernel
theorem dX2_missingSpots_1 : decode cX2_missingSpots 1 = .ok (.istore_n 1, 1) := by decide +kernel
theorem dX2_missingSpots_2 : decode cX2_missingSpots 2 = .ok (.iconst 0, 1) := by decide +kernel
theorem dX2_missingSpots_3 : decode cX2_missingSpots 3 = .ok (.istore_n 2, 1) := by decide +kernel
theorem dX2_missingSpots_4 : decode cX2_missingSpots 4 = .ok (.iload_n 2, 1) := by decide +kernel
theorem dX2_missingSpots_5 : decode cX2_missingSpots 5 = .ok (.bipush 6, 2) := by decide +kernel
theorem dX2_missingSpots_7 : decode cX2_missingSpots 7 = .ok (.if_icmp .ge 25, 3) := by decide +kernel
theorem dX2_missingSpots_10 : decode cX2_missingSpots 10 = .ok (.iload_n 1, 1) := by decide +kernel
theorem dX2_missingSpots_11 : decode cX2_missingSpots 11 = .ok (.aload_n 0, 1) := by decide +kernel
theorem dX2_missingSpots_12 : decode cX2_missingSpots 12 = .ok (.iload_n 2, 1) := by decide +kernel
theorem dX2_missingSpots_13 : decode cX2_missingSpots 13 = .ok (.invokevirtual 141, 3) := by decide +kernel
theorem dX2_missingSpots_16 : decode cX2_missingSpots 16 = .ok (.ifCond .le 7, 3) := by decide +kernel
theorem dX2_missingSpots_19 : decode cX2_missingSpots 19 = .ok (.iconst 1, 1) := by decide +kernel
theorem dX2_missingSpots_20 : decode cX2_missingSpots 20 = .ok (.goto 4, 3) := by decide +kernel
theorem dX2_missingSpots_23 : decode cX2_missingSpots 23 = .ok (.iconst 0, 1) := by decide +kernel
theorem dX2_missingSpots_24 : decode cX2_missingSpots 24 = .ok (.iadd, 1) := by decide +kernel
theorem dX2_missingSpots_25 : decode cX2_missingSpots 25 = .ok (.istore_n 1, 1) := by decide +kernel
theorem dX2_missingSpots_26 : decode cX2_missingSpots 26 = .ok (.iinc 2 1, 3) := by decide +kernel
theorem dX2_missingSpots_29 : decode cX2_missingSpots 29 = .ok (.goto (-25), 3) := by decide +kernel
theorem dX2_missingSpots_32 : decode cX2_missingSpots 32 = .ok (.iload_n 1, 1) := by decide +kernel
theorem dX2_missingSpots_33 : decode cX2_missingSpots 33 = .ok (.ireturn, 1) := by decide +kernel
theorem dX2_fitsWhenCut_0 : decode cX2_fitsWhenCut 0 = .ok (.iconst 0, 1) := by decide +kernel
theorem dX2_fitsWhenCut_1 : decode cX2_fitsWhenCut 1 = .ok (.istore_n 1, 1) := by decide +kernel
theorem dX2_fitsWhenCut_2 : decode cX2_fitsWhenCut 2 = .ok (.iload_n 1, 1) := by decide +kernel
theorem dX2_fitsWhenCut_3 : decode cX2_fitsWhenCut 3 = .ok (.bipush 6, 2) := by decide +kernel
theorem dX2_fitsWhenCut_5 : decode cX2_fitsWhenCut 5 = .ok (.if_icmp .ge 33, 3) := by decide +kernel
theorem dX2_fitsWhenCut_8 : decode cX2_fitsWhenCut 8 = .ok (.aload_n 0, 1) := by decide +kernel
theorem dX2_fitsWhenCut_9 : decode cX2_fitsWhenCut 9 = .ok (.getfield 36, 3) := by decide +kernel
theorem dX2_fitsWhenCut_12 : decode cX2_fitsWhenCut 12 = .ok (.iload_n 1, 1) := by decide +kernel
theorem dX2_fitsWhenCut_13 : decode cX2_fitsWhenCut 13 = .ok (.iaload, 1) := by decide +kernel
theorem dX2_fitsWhenCut_14 : decode cX2_fitsWhenCut 14 = .ok (.aload_n 0, 1) := by decide +kernel
theorem dX2_fitsWhenCut_15 : decode cX2_fitsWhenCut 15 = .ok (.iload_n 1, 1) := by decide +kernel
theorem dX2_fitsWhenCut_16 : decode cX2_fitsWhenCut 16 = .ok (.invokevirtual 141, 3) := by decide +kernel
theorem dX2_fitsWhenCut_19 : decode cX2_fitsWhenCut 19 = .ok (.iadd, 1) := by decide +kernel
theorem dX2_fitsWhenCut_20 : decode cX2_fitsWhenCut 20 = .ok (.aload_n 0, 1) := by decide +kernel
theorem dX2_fitsWhenCut_21 : decode cX2_fitsWhenCut 21 = .ok (.getfield 16, 3) := by decide +kernel
theorem dX2_fitsWhenCut_24 : decode cX2_fitsWhenCut 24 = .ok (.getfield 138, 3) := by decide +kernel
theorem dX2_fitsWhenCut_27 : decode cX2_fitsWhenCut 27 = .ok (.if_icmp .le 5, 3) := by decide +kernel
theorem dX2_fitsWhenCut_30 : decode cX2_fitsWhenCut 30 = .ok (.iconst 0, 1) := by decide +kernel
theorem dX2_fitsWhenCut_31 : decode cX2_fitsWhenCut 31 = .ok (.ireturn, 1) := by decide +kernel
theorem dX2_fitsWhenCut_32 : decode cX2_fitsWhenCut 32 = .ok (.iinc 1 1, 3) := by decide +kernel
theorem dX2_fitsWhenCut_35 : decode cX2_fitsWhenCut 35 = .ok (.goto (-33), 3) := by decide +kernel
theorem dX2_fitsWhenCut_38 : decode cX2_fitsWhenCut 38 = .ok (.iconst 1, 1) := by decide +kernel
theorem dX2_fitsWhenCut_39 : decode cX2_fitsWhenCut 39 = .ok (.ireturn, 1) := by decide +kernel
theorem dX3_init_0 : decode cX3_init 0 = .ok (.aload_n 0, 1) := by decide +kernel
theorem dX3_init_1 : decode cX3_init 1 = .ok (.invokespecial 3, 3) := by decide +kernel
theorem dX3_init_4 : decode cX3_init 4 = .ok (.aload_n 0, 1) := by decide +kernel
theorem dX3_init_5 : decode cX3_init 5 = .ok (.iconst 2, 1) := by decide +kernel
theorem dX3_init_6 : decode cX3_init 6 = .ok (.newarray .int, 2) := by decide +kernel
theorem dX3_init_8 : decode cX3_init 8 = .ok (.putfield 9, 3) := by decide +kernel
theorem dX3_init_11 : decode cX3_init 11 = .ok (.aload_n 0, 1) := by decide +kernel
theorem dX3_init_12 : decode cX3_init 12 = .ok (.iconst 2, 1) := by decide +kernel
theorem dX3_init_13 : decode cX3_init 13 = .ok (.newarray .int, 2) := by decide +kernel
theorem dX3_init_15 : decode cX3_init 15 = .ok (.putfield 15, 3) := by decide +kernel
theorem dX3_init_18 : decode cX3_init 18 = .ok (.aload_n 0, 1) := by decide +kernel
theorem dX3_init_19 : decode cX3_init 19 = .ok (.bipush 6, 2) := by decide +kernel
theorem dX3_init_21 : decode cX3_init 21 = .ok (.newarray .int, 2) := by decide +kernel
theorem dX3_init_23 : decode cX3_init 23 = .ok (.putfield 18, 3) := by decide +kernel
theorem dX3_init_26 : decode cX3_init 26 = .ok (.aload_n 0, 1) := by decide +kernel
theorem dX3_init_27 : decode cX3_init 27 = .ok (.bipush 6, 2) := by decide +kernel
theorem dX3_init_29 : decode cX3_init 29 = .ok (.newarray .int, 2) := by decide +kernel
theorem dX3_init_31 : decode cX3_init 31 = .ok (.putfield 21, 3) := by decide +kernel
theorem dX3_init_34 : decode cX3_init 34 = .ok (.return_, 1) := by decide +kernel
theorem dX3_begin_0 : decode cX3_begin 0 = .ok (.aload_n 0, 1) := by decide +kernel
theorem dX3_begin_1 : decode cX3_begin 1 = .ok (.iload_n 1, 1) := by decide +kernel
theorem dX3_begin_2 : decode cX3_begin 2 = .ok (.putfield 24, 3) := by decide +kernel
theorem dX3_begin_5 : decode cX3_begin 5 = .ok (.aload_n 0, 1) := by decide +kernel
theorem dX3_begin_6 : decode cX3_begin 6 = .ok (.iload_n 2, 1) := by decide +kernel
theorem dX3_begin_7 : decode cX3_begin 7 = .ok (.putfield 28, 3) := by decide +kernel
theorem dX3_begin_10 : decode cX3_begin 10 = .ok (.aload_n 0, 1) := by decide +kernel
theorem dX3_begin_11 : decode cX3_begin 11 = .ok (.iload_n 3, 1) := by decide +kernel
theorem dX3_begin_12 : decode cX3_begin 12 = .ok (.putfield 31, 3) := by decide +kernel
theorem dX3_begin_15 : decode cX3_begin 15 = .ok (.aload_n 0, 1) := by decide +kernel
theorem dX3_begin_16 : decode cX3_begin 16 = .ok (.iconst 0, 1) := by decide +kernel
theorem dX3_begin_17 : decode cX3_begin 17 = .ok (.putfield 34, 3) := by decide +kernel
theorem dX3_begin_20 : decode cX3_begin 20 = .ok (.aload_n 0, 1) := by decide +kernel
theorem dX3_begin_21 : decode cX3_begin 21 = .ok (.iconst 0, 1) := by decide +kernel
theorem dX3_begin_22 : decode cX3_begin 22 = .ok (.putfield 37, 3) := by decide +kernel
theorem dX3_begin_25 : decode cX3_begin 25 = .ok (.aload_n 0, 1) := by decide +kernel
theorem dX3_begin_26 : decode cX3_begin 26 = .ok (.getfield 9, 3) := by decide +kernel
theorem dX3_begin_29 : decode cX3_begin 29 = .ok (.bipush 50, 2) := by decide +kernel
theorem dX3_begin_31 : decode cX3_begin 31 = .ok (.invokestatic 40, 3) := by decide +kernel
theorem dX3_begin_34 : decode cX3_begin 34 = .ok (.aload_n 0, 1) := by decide +kernel
theorem dX3_begin_35 : decode cX3_begin 35 = .ok (.getfield 15, 3) := by decide +kernel
theorem dX3_begin_38 : decode cX3_begin 38 = .ok (.iconst 0, 1) := by decide +kernel
theorem dX3_begin_39 : decode cX3_begin 39 = .ok (.invokestatic 40, 3) := by decide +kernel
theorem dX3_begin_42 : decode cX3_begin 42 = .ok (.aload_n 0, 1) := by decide +kernel
theorem dX3_begin_43 : decode cX3_begin 43 = .ok (.getfield 18, 3) := by decide +kernel
theorem dX3_begin_46 : decode cX3_begin 46 = .ok (.iconst 4, 1) := by decide +kernel
theorem dX3_begin_47 : decode cX3_begin 47 = .ok (.invokestatic 40, 3) := by decide +kernel
theorem dX3_begin_50 : decode cX3_begin 50 = .ok (.return_, 1) := by decide +kernel
theorem dX3_become_0 : decode cX3_become 0 = .ok (.aload_n 0, 1) := by decide +kernel
theorem dX3_become_1 : decode cX3_become 1 = .ok (.aload_n 1, 1) := by decide +kernel
theorem dX3_become_2 : decode cX3_become 2 = .ok (.getfield 24, 3) := by decide +kernel
theorem dX3_become_5 : decode cX3_become 5 = .ok (.putfield 24, 3) := by decide +kernel
theorem dX3_become_8 : decode cX3_become 8 = .ok (.aload_n 0, 1) := by decide +kernel
theorem dX3_become_9 : decode cX3_become 9 = .ok (.aload_n 1, 1) := by decide +kernel
theorem dX3_become_10 : decode cX3_become 10 = .ok (.getfield 28, 3) := by decide +kernel
theorem dX3_become_13 : decode cX3_become 13 = .ok (.putfield 28, 3) := by decide +kernel
theorem dX3_become_16 : decode cX3_become 16 = .ok (.aload_n 0, 1) := by decide +kernel
theorem dX3_become_17 : decode cX3_become 17 = .ok (.aload_n 1, 1) := by decide +kernel
theorem dX3_become_18 : decode cX3_become 18 = .ok (.getfield 31, 3) := by decide +kernel
theorem dX3_become_21 : decode cX3_become 21 = .ok (.putfield 31, 3) := by decide +kernel
theorem dX3_become_24 : decode cX3_become 24 = .ok (.aload_n 0, 1) := by decide +kernel
theorem dX3_become_25 : decode cX3_become 25 = .ok (.aload_n 1, 1) := by decide +kernel
theorem dX3_become_26 : decode cX3_become 26 = .ok (.getfield 34, 3) := by decide +kernel
theorem dX3_become_29 : decode cX3_become 29 = .ok (.putfield 34, 3) := by decide +kernel
theorem dX3_become_32 : decode cX3_become 32 = .ok (.aload_n 0, 1) := by decide +kernel
theorem dX3_become_33 : decode cX3_become 33 = .ok (.aload_n 1, 1) := by decide +kernel
theorem dX3_become_34 : decode cX3_become 34 = .ok (.getfield 37, 3) := by decide +kernel
theorem dX3_become_37 : decode cX3_become 37 = .ok (.putfield 37, 3) := by decide +kernel
theorem dX3_become_40 : decode cX3_become 40 = .ok (.aload_n 1, 1) := by decide +kernel
theorem dX3_become_41 : decode cX3_become 41 = .ok (.getfield 9, 3) := by decide +kernel
theorem dX3_become_44 : decode cX3_become 44 = .ok (.iconst 0, 1) := by decide +kernel
theorem dX3_become_45 : decode cX3_become 45 = .ok (.aload_n 0, 1) := by decide +kernel
theorem dX3_become_46 : decode cX3_become 46 = .ok (.getfield 9, 3) := by decide +kernel
theorem dX3_become_49 : decode cX3_become 49 = .ok (.iconst 0, 1) := by decide +kernel
theorem dX3_become_50 : decode cX3_become 50 = .ok (.iconst 2, 1) := by decide +kernel
theorem dX3_become_51 : decode cX3_become 51 = .ok (.invokestatic 46, 3) := by decide +kernel
theorem dX3_become_54 : decode cX3_become 54 = .ok (.aload_n 1, 1) := by decide +kernel
theorem dX3_become_55 : decode cX3_become 55 = .ok (.getfield 15, 3) := by decide +kernel
theorem dX3_become_58 : decode cX3_become 58 = .ok (.iconst 0, 1) := by decide +kernel
theorem dX3_become_59 : decode cX3_become 59 = .ok (.aload_n 0, 1) := by decide +kernel
theorem dX3_become_60 : decode cX3_become 60 = .ok (.getfield 15, 3) := by decide +kernel
theorem dX3_become_63 : decode cX3_become 63 = .ok (.iconst 0, 1) := by decide +kernel
theorem dX3_become_64 : decode cX3_become 64 = .ok (.iconst 2, 1) := by decide +kernel
theorem dX3_become_65 : decode cX3_become 65 = .ok (.invokestatic 46, 3) := by decide +kernel
theorem dX3_become_68 : decode cX3_become 68 = .ok (.aload_n 1, 1) := by decide +kernel
theorem dX3_become_69 : decode cX3_become 69 = .ok (.getfield 18, 3) := by decide +kernel
theorem dX3_become_72 : decode cX3_become 72 = .ok (.iconst 0, 1) := by decide +kernel
theorem dX3_become_73 : decode cX3_become 73 = .ok (.aload_n 0, 1) := by decide +kernel
theorem dX3_become_74 : decode cX3_become 74 = .ok (.getfield 18, 3) := by decide +kernel
theorem dX3_become_77 : decode cX3_become 77 = .ok (.iconst 0, 1) := by decide +kernel
theorem dX3_become_78 : decode cX3_become 78 = .ok (.bipush 6, 2) := by decide +kernel
theorem dX3_become_80 : decode cX3_become 80 = .ok (.invokestatic 46, 3) := by decide +kernel
theorem dX3_become_83 : decode cX3_become 83 = .ok (.return_, 1) := by decide +kernel
theorem dX3_dampness_0 : decode cX3_dampness 0 = .ok (.aload_n 0, 1) := by decide +kernel
theorem dX3_dampness_1 : decode cX3_dampness 1 = .ok (.getfield 9, 3) := by decide +kernel
theorem dX3_dampness_4 : decode cX3_dampness 4 = .ok (.iconst 0, 1) := by decide +kernel
theorem dX3_dampness_5 : decode cX3_dampness 5 = .ok (.iaload, 1) := by decide +kernel
theorem dX3_dampness_6 : decode cX3_dampness 6 = .ok (.aload_n 0, 1) := by decide +kernel
theorem dX3_dampness_7 : decode cX3_dampness 7 = .ok (.getfield 9, 3) := by decide +kernel
theorem dX3_dampness_10 : decode cX3_dampness 10 = .ok (.iconst 1, 1) := by decide +kernel
theorem dX3_dampness_11 : decode cX3_dampness 11 = .ok (.iaload, 1) := by decide +kernel
theorem dX3_dampness_12 : decode cX3_dampness 12 = .ok (.iadd, 1) := by decide +kernel
theorem dX3_dampness_13 : decode cX3_dampness 13 = .ok (.iconst 2, 1) := by decide +kernel
theorem dX3_dampness_14 : decode cX3_dampness 14 = .ok (.idiv, 1) := by decide +kernel
theorem dX3_dampness_15 : decode cX3_dampness 15 = .ok (.ireturn, 1) := by decide +kernel
theorem dX3_factsIn_0 : decode cX3_factsIn 0 = .ok (.aload_n 0, 1) := by decide +kernel
theorem dX3_factsIn_1 : decode cX3_factsIn 1 = .ok (.getfield 21, 3) := by decide +kernel
theorem dX3_factsIn_4 : decode cX3_factsIn 4 = .ok (.iconst 0, 1) := by decide +kernel
theorem dX3_factsIn_5 : decode cX3_factsIn 5 = .ok (.aload_n 0, 1) := by decide +kernel
theorem dX3_factsIn_6 : decode cX3_factsIn 6 = .ok (.getfield 28, 3) := by decide +kernel
theorem dX3_factsIn_9 : decode cX3_factsIn 9 = .ok (.iastore, 1) := by decide +kernel
theorem dX3_factsIn_10 : decode cX3_factsIn 10 = .ok (.aload_n 0, 1) := by decide +kernel
theorem dX3_factsIn_11 : decode cX3_factsIn 11 = .ok (.getfield 21, 3) := by decide +kernel
theorem dX3_factsIn_14 : decode cX3_factsIn 14 = .ok (.iconst 1, 1) := by decide +kernel
theorem dX3_factsIn_15 : decode cX3_factsIn 15 = .ok (.aload_n 0, 1) := by decide +kernel
theorem dX3_factsIn_16 : decode cX3_factsIn 16 = .ok (.getfield 24, 3) := by decide +kernel
theorem dX3_factsIn_19 : decode cX3_factsIn 19 = .ok (.iastore, 1) := by decide +kernel
theorem dX3_factsIn_20 : decode cX3_factsIn 20 = .ok (.aload_n 0, 1) := by decide +kernel
theorem dX3_factsIn_21 : decode cX3_factsIn 21 = .ok (.getfield 21, 3) := by decide +kernel
theorem dX3_factsIn_24 : decode cX3_factsIn 24 = .ok (.iconst 2, 1) := by decide +kernel
theorem dX3_factsIn_25 : decode cX3_factsIn 25 = .ok (.aload_n 0, 1) := by decide +kernel
theorem dX3_factsIn_26 : decode cX3_factsIn 26 = .ok (.invokevirtual 52, 3) := by decide +kernel
theorem dX3_factsIn_29 : decode cX3_factsIn 29 = .ok (.bipush 10, 2) := by decide +kernel
theorem dX3_factsIn_31 : decode cX3_factsIn 31 = .ok (.idiv, 1) := by decide +kernel
theorem dX3_factsIn_32 : decode cX3_factsIn 32 = .ok (.iastore, 1) := by decide +kernel
theorem dX3_factsIn_33 : decode cX3_factsIn 33 = .ok (.aload_n 0, 1) := by decide +kernel
theorem dX3_factsIn_34 : decode cX3_factsIn 34 = .ok (.getfield 21, 3) := by decide +kernel
theorem dX3_factsIn_37 : decode cX3_factsIn 37 = .ok (.iconst 3, 1) := by decide +kernel
theorem dX3_factsIn_38 : decode cX3_factsIn 38 = .ok (.aload_n 0, 1) := by decide +kernel
theorem dX3_factsIn_39 : decode cX3_factsIn 39 = .ok (.getfield 34, 3) := by decide +kernel
theorem dX3_factsIn_42 : decode cX3_factsIn 42 = .ok (.iastore, 1) := by decide +kernel
theorem dX3_factsIn_43 : decode cX3_factsIn 43 = .ok (.aload_n 0, 1) := by decide +kernel
theorem dX3_factsIn_44 : decode cX3_factsIn 44 = .ok (.getfield 21, 3) := by decide +kernel
theorem dX3_factsIn_47 : decode cX3_factsIn 47 = .ok (.iconst 4, 1) := by decide +kernel
theorem dX3_factsIn_48 : decode cX3_factsIn 48 = .ok (.aload_n 0, 1) := by decide +kernel
theorem dX3_factsIn_49 : decode cX3_factsIn 49 = .ok (.getfield 15, 3) := by decide +kernel
theorem dX3_factsIn_52 : decode cX3_factsIn 52 = .ok (.iconst 0, 1) := by decide +kernel
theorem dX3_factsIn_53 : decode cX3_factsIn 53 = .ok (.iaload, 1) := by decide +kernel
theorem dX3_factsIn_54 : decode cX3_factsIn 54 = .ok (.aload_n 0, 1) := by decide +kernel
theorem dX3_factsIn_55 : decode cX3_factsIn 55 = .ok (.getfield 15, 3) := by decide +kernel
theorem dX3_factsIn_58 : decode cX3_factsIn 58 = .ok (.iconst 1, 1) := by decide +kernel
theorem dX3_factsIn_59 : decode cX3_factsIn 59 = .ok (.iaload, 1) := by decide +kernel
theorem dX3_factsIn_60 : decode cX3_factsIn 60 = .ok (.iadd, 1) := by decide +kernel
theorem dX3_factsIn_61 : decode cX3_factsIn 61 = .ok (.iastore, 1) := by decide +kernel
theorem dX3_factsIn_62 : decode cX3_factsIn 62 = .ok (.aload_n 0, 1) := by decide +kernel
theorem dX3_factsIn_63 : decode cX3_factsIn 63 = .ok (.getfield 21, 3) := by decide +kernel
theorem dX3_factsIn_66 : decode cX3_factsIn 66 = .ok (.iconst 5, 1) := by decide +kernel
theorem dX3_factsIn_67 : decode cX3_factsIn 67 = .ok (.iload_n 1, 1) := by decide +kernel
theorem dX3_factsIn_68 : decode cX3_factsIn 68 = .ok (.bipush 12, 2) := by decide +kernel
theorem dX3_factsIn_70 : decode cX3_factsIn 70 = .ok (.irem, 1) := by decide +kernel
theorem dX3_factsIn_71 : decode cX3_factsIn 71 = .ok (.iastore, 1) := by decide +kernel
theorem dX3_factsIn_72 : decode cX3_factsIn 72 = .ok (.aload_n 0, 1) := by decide +kernel
theorem dX3_factsIn_73 : decode cX3_factsIn 73 = .ok (.getfield 21, 3) := by decide +kernel
theorem dX3_factsIn_76 : decode cX3_factsIn 76 = .ok (.areturn, 1) := by decide +kernel
theorem dX3_swell_0 : decode cX3_swell 0 = .ok (.iload_n 1, 1) := by decide +kernel
theorem dX3_swell_1 : decode cX3_swell 1 = .ok (.aload_n 0, 1) := by decide +kernel
theorem dX3_swell_2 : decode cX3_swell 2 = .ok (.invokevirtual 52, 3) := by decide +kernel
theorem dX3_swell_5 : decode cX3_swell 5 = .ok (.imul, 1) := by decide +kernel
theorem dX3_swell_6 : decode cX3_swell 6 = .ok (.bipush 20, 2) := by decide +kernel
theorem dX3_swell_8 : decode cX3_swell 8 = .ok (.idiv, 1) := by decide +kernel
theorem dX3_swell_9 : decode cX3_swell 9 = .ok (.istore_n 2, 1) := by decide +kernel
theorem dX3_swell_10 : decode cX3_swell 10 = .ok (.aload_n 0, 1) := by decide +kernel
theorem dX3_swell_11 : decode cX3_swell 11 = .ok (.getfield 28, 3) := by decide +kernel
theorem dX3_swell_14 : decode cX3_swell 14 = .ok (.tableswitch 58 1 5 #[34, 58, 58, 41, 50], 34) := by decide +kernel
theorem dX3_swell_48 : decode cX3_swell 48 = .ok (.iload_n 2, 1) := by decide +kernel
theorem dX3_swell_49 : decode cX3_swell 49 = .ok (.aload_n 0, 1) := by decide +kernel
theorem dX3_swell_50 : decode cX3_swell 50 = .ok (.getfield 31, 3) := by decide +kernel
theorem dX3_swell_53 : decode cX3_swell 53 = .ok (.iadd, 1) := by decide +kernel
theorem dX3_swell_54 : decode cX3_swell 54 = .ok (.ireturn, 1) := by decide +kernel
theorem dX3_swell_55 : decode cX3_swell 55 = .ok (.iload_n 2, 1) := by decide +kernel
theorem dX3_swell_56 : decode cX3_swell 56 = .ok (.aload_n 0, 1) := by decide +kernel
theorem dX3_swell_57 : decode cX3_swell 57 = .ok (.getfield 31, 3) := by decide +kernel
theorem dX3_swell_60 : decode cX3_swell 60 = .ok (.iadd, 1) := by decide +kernel
theorem dX3_swell_61 : decode cX3_swell 61 = .ok (.iconst 2, 1) := by decide +kernel
theorem dX3_swell_62 : decode cX3_swell 62 = .ok (.idiv, 1) := by decide +kernel
theorem dX3_swell_63 : decode cX3_swell 63 = .ok (.ireturn, 1) := by decide +kernel
theorem dX3_swell_64 : decode cX3_swell 64 = .ok (.iconst 0, 1) := by decide +kernel
theorem dX3_swell_65 : decode cX3_swell 65 = .ok (.iload_n 2, 1) := by decide +kernel
theorem dX3_swell_66 : decode cX3_swell 66 = .ok (.iconst 2, 1) := by decide +kernel
theorem dX3_swell_67 : decode cX3_swell 67 = .ok (.isub, 1) := by decide +kernel
theorem dX3_swell_68 : decode cX3_swell 68 = .ok (.invokestatic 56, 3) := by decide +kernel
theorem dX3_swell_71 : decode cX3_swell 71 = .ok (.ireturn, 1) := by decide +kernel
theorem dX3_swell_72 : decode cX3_swell 72 = .ok (.iload_n 2, 1) := by decide +kernel
theorem dX3_swell_73 : decode cX3_swell 73 = .ok (.ireturn, 1) := by decide +kernel
theorem dX3_bend_0 : decode cX3_bend 0 = .ok (.aload_n 0, 1) := by decide +kernel
theorem dX3_bend_1 : decode cX3_bend 1 = .ok (.getfield 9, 3) := by decide +kernel
theorem dX3_bend_4 : decode cX3_bend 4 = .ok (.iconst 0, 1) := by decide +kernel
theorem dX3_bend_5 : decode cX3_bend 5 = .ok (.iaload, 1) := by decide +kernel
theorem dX3_bend_6 : decode cX3_bend 6 = .ok (.aload_n 0, 1) := by decide +kernel
theorem dX3_bend_7 : decode cX3_bend 7 = .ok (.getfield 9, 3) := by decide +kernel
theorem dX3_bend_10 : decode cX3_bend 10 = .ok (.iconst 1, 1) := by decide +kernel
theorem dX3_bend_11 : decode cX3_bend 11 = .ok (.iaload, 1) := by decide +kernel
theorem dX3_bend_12 : decode cX3_bend 12 = .ok (.isub, 1) := by decide +kernel
theorem dX3_bend_13 : decode cX3_bend 13 = .ok (.invokestatic 62, 3) := by decide +kernel
theorem dX3_bend_16 : decode cX3_bend 16 = .ok (.bipush 10, 2) := by decide +kernel
theorem dX3_bend_18 : decode cX3_bend 18 = .ok (.idiv, 1) := by decide +kernel
theorem dX3_bend_19 : decode cX3_bend 19 = .ok (.istore_n 1, 1) := by decide +kernel
theorem dX3_bend_20 : decode cX3_bend 20 = .ok (.aload_n 0, 1) := by decide +kernel
theorem dX3_bend_21 : decode cX3_bend 21 = .ok (.getfield 28, 3) := by decide +kernel
theorem dX3_bend_24 : decode cX3_bend 24 = .ok (.iconst 2, 1) := by decide +kernel
theorem dX3_bend_25 : decode cX3_bend 25 = .ok (.if_icmp .eq 11, 3) := by decide +kernel
theorem dX3_bend_28 : decode cX3_bend 28 = .ok (.aload_n 0, 1) := by decide +kernel
theorem dX3_bend_29 : decode cX3_bend 29 = .ok (.getfield 28, 3) := by decide +kernel
theorem dX3_bend_32 : decode cX3_bend 32 = .ok (.iconst 5, 1) := by decide +kernel
theorem dX3_bend_33 : decode cX3_bend 33 = .ok (.if_icmp .ne 9, 3) := by decide +kernel
theorem dX3_bend_36 : decode cX3_bend 36 = .ok (.iconst 2, 1) := by decide +kernel
theorem dX3_bend_37 : decode cX3_bend 37 = .ok (.iload_n 1, 1) := by decide +kernel
theorem dX3_bend_38 : decode cX3_bend 38 = .ok (.imul, 1) := by decide +kernel
theorem dX3_bend_39 : decode cX3_bend 39 = .ok (.goto 4, 3) := by decide +kernel
theorem dX3_bend_42 : decode cX3_bend 42 = .ok (.iload_n 1, 1) := by decide +kernel
theorem dX3_bend_43 : decode cX3_bend 43 = .ok (.ireturn, 1) := by decide +kernel
theorem dX3_hang_0 : decode cX3_hang 0 = .ok (.iconst 0, 1) := by decide +kernel
theorem dX3_hang_1 : decode cX3_hang 1 = .ok (.aload_n 0, 1) := by decide +kernel
theorem dX3_hang_2 : decode cX3_hang 2 = .ok (.getfield 34, 3) := by decide +kernel
theorem dX3_hang_5 : decode cX3_hang 5 = .ok (.aload_n 0, 1) := by decide +kernel
theorem dX3_hang_6 : decode cX3_hang 6 = .ok (.getfield 37, 3) := by decide +kernel
theorem dX3_hang_9 : decode cX3_hang 9 = .ok (.isub, 1) := by decide +kernel
theorem dX3_hang_10 : decode cX3_hang 10 = .ok (.invokestatic 56, 3) := by decide +kernel
theorem dX3_hang_13 : decode cX3_hang 13 = .ok (.istore_n 2, 1) := by decide +kernel
theorem dX3_hang_14 : decode cX3_hang 14 = .ok (.aload_n 0, 1) := by decide +kernel
theorem dX3_hang_15 : decode cX3_hang 15 = .ok (.getfield 28, 3) := by decide +kernel
theorem dX3_hang_18 : decode cX3_hang 18 = .ok (.lookupswitch 44 #[(3, 26), (6, 33)], 26) := by decide +kernel
theorem dX3_hang_44 : decode cX3_hang 44 = .ok (.iload_n 2, 1) := by decide +kernel
theorem dX3_hang_45 : decode cX3_hang 45 = .ok (.aload_n 0, 1) := by decide +kernel
theorem dX3_hang_46 : decode cX3_hang 46 = .ok (.getfield 31, 3) := by decide +kernel
theorem dX3_hang_49 : decode cX3_hang 49 = .ok (.iadd, 1) := by decide +kernel
theorem dX3_hang_50 : decode cX3_hang 50 = .ok (.ireturn, 1) := by decide +kernel
theorem dX3_hang_51 : decode cX3_hang 51 = .ok (.iload_n 2, 1) := by decide +kernel
theorem dX3_hang_52 : decode cX3_hang 52 = .ok (.aload_n 0, 1) := by decide +kernel
theorem dX3_hang_53 : decode cX3_hang 53 = .ok (.getfield 31, 3) := by decide +kernel
theorem dX3_hang_56 : decode cX3_hang 56 = .ok (.iadd, 1) := by decide +kernel
theorem dX3_hang_57 : decode cX3_hang 57 = .ok (.iload_n 1, 1) := by decide +kernel
theorem dX3_hang_58 : decode cX3_hang 58 = .ok (.iconst 2, 1) := by decide +kernel
theorem dX3_hang_59 : decode cX3_hang 59 = .ok (.idiv, 1) := by decide +kernel
theorem dX3_hang_60 : decode cX3_hang 60 = .ok (.iadd, 1) := by decide +kernel
theorem dX3_hang_61 : decode cX3_hang 61 = .ok (.ireturn, 1) := by decide +kernel
theorem dX3_hang_62 : decode cX3_hang 62 = .ok (.iload_n 2, 1) := by decide +kernel
theorem dX3_hang_63 : decode cX3_hang 63 = .ok (.ireturn, 1) := by decide +kernel
theorem dX3_takeUp_0 : decode cX3_takeUp 0 = .ok (.iconst 0, 1) := by decide +kernel
theorem dX3_takeUp_1 : decode cX3_takeUp 1 = .ok (.istore_n 2, 1) := by decide +kernel
theorem dX3_takeUp_2 : decode cX3_takeUp 2 = .ok (.iload_n 2, 1) := by decide +kernel
theorem dX3_takeUp_3 : decode cX3_takeUp 3 = .ok (.iconst 2, 1) := by decide +kernel
theorem dX3_takeUp_4 : decode cX3_takeUp 4 = .ok (.if_icmp .ge 42, 3) := by decide +kernel
theorem dX3_takeUp_7 : decode cX3_takeUp 7 = .ok (.aload_n 0, 1) := by decide +kernel
theorem dX3_takeUp_8 : decode cX3_takeUp 8 = .ok (.getfield 9, 3) := by decide +kernel
theorem dX3_takeUp_11 : decode cX3_takeUp 11 = .ok (.iload_n 2, 1) := by decide +kernel
theorem dX3_takeUp_12 : decode cX3_takeUp 12 = .ok (.dup2, 1) := by decide +kernel
theorem dX3_takeUp_13 : decode cX3_takeUp 13 = .ok (.iaload, 1) := by decide +kernel
theorem dX3_takeUp_14 : decode cX3_takeUp 14 = .ok (.iload_n 1, 1) := by decide +kernel
theorem dX3_takeUp_15 : decode cX3_takeUp 15 = .ok (.aload_n 0, 1) := by decide +kernel
theorem dX3_takeUp_16 : decode cX3_takeUp 16 = .ok (.getfield 9, 3) := by decide +kernel
theorem dX3_takeUp_19 : decode cX3_takeUp 19 = .ok (.iload_n 2, 1) := by decide +kernel
theorem dX3_takeUp_20 : decode cX3_takeUp 20 = .ok (.iaload, 1) := by decide +kernel
theorem dX3_takeUp_21 : decode cX3_takeUp 21 = .ok (.isub, 1) := by decide +kernel
theorem dX3_takeUp_22 : decode cX3_takeUp 22 = .ok (.aload_n 0, 1) := by decide +kernel
theorem dX3_takeUp_23 : decode cX3_takeUp 23 = .ok (.getfield 15, 3) := by decide +kernel
theorem dX3_takeUp_26 : decode cX3_takeUp 26 = .ok (.iload_n 2, 1) := by decide +kernel
theorem dX3_takeUp_27 : decode cX3_takeUp 27 = .ok (.iaload, 1) := by decide +kernel
theorem dX3_takeUp_28 : decode cX3_takeUp 28 = .ok (.ifCond .ne 7, 3) := by decide +kernel
theorem dX3_takeUp_31 : decode cX3_takeUp 31 = .ok (.iconst 2, 1) := by decide +kernel
theorem dX3_takeUp_32 : decode cX3_takeUp 32 = .ok (.goto 5, 3) := by decide +kernel
theorem dX3_takeUp_35 : decode cX3_takeUp 35 = .ok (.bipush 8, 2) := by decide +kernel
theorem dX3_takeUp_37 : decode cX3_takeUp 37 = .ok (.idiv, 1) := by decide +kernel
theorem dX3_takeUp_38 : decode cX3_takeUp 38 = .ok (.iadd, 1) := by decide +kernel
theorem dX3_takeUp_39 : decode cX3_takeUp 39 = .ok (.iastore, 1) := by decide +kernel
theorem dX3_takeUp_40 : decode cX3_takeUp 40 = .ok (.iinc 2 1, 3) := by decide +kernel
theorem dX3_takeUp_43 : decode cX3_takeUp 43 = .ok (.goto (-41), 3) := by decide +kernel
theorem dX3_takeUp_46 : decode cX3_takeUp 46 = .ok (.return_, 1) := by decide +kernel
theorem dX3_drawOut_0 : decode cX3_drawOut 0 = .ok (.aload_n 0, 1) := by decide +kernel
theorem dX3_drawOut_1 : decode cX3_drawOut 1 = .ok (.bipush 20, 2) := by decide +kernel
theorem dX3_drawOut_3 : decode cX3_drawOut 3 = .ok (.aload_n 0, 1) := by decide +kernel
theorem dX3_drawOut_4 : decode cX3_drawOut 4 = .ok (.getfield 34, 3) := by decide +kernel
theorem dX3_drawOut_7 : decode cX3_drawOut 7 = .ok (.iload_n 1, 1) := by decide +kernel
theorem dX3_drawOut_8 : decode cX3_drawOut 8 = .ok (.iadd, 1) := by decide +kernel
theorem dX3_drawOut_9 : decode cX3_drawOut 9 = .ok (.invokestatic 66, 3) := by decide +kernel
theorem dX3_drawOut_12 : decode cX3_drawOut 12 = .ok (.putfield 34, 3) := by decide +kernel
theorem dX3_drawOut_15 : decode cX3_drawOut 15 = .ok (.return_, 1) := by decide +kernel
theorem dX3_cutMore_0 : decode cX3_cutMore 0 = .ok (.aload_n 0, 1) := by decide +kernel
theorem dX3_cutMore_1 : decode cX3_cutMore 1 = .ok (.getfield 18, 3) := by decide +kernel
theorem dX3_cutMore_4 : decode cX3_cutMore 4 = .ok (.iload_n 1, 1) := by decide +kernel
theorem dX3_cutMore_5 : decode cX3_cutMore 5 = .ok (.iaload, 1) := by decide +kernel
theorem dX3_cutMore_6 : decode cX3_cutMore 6 = .ok (.istore_n 3, 1) := by decide +kernel
theorem dX3_cutMore_7 : decode cX3_cutMore 7 = .ok (.aload_n 0, 1) := by decide +kernel
theorem dX3_cutMore_8 : decode cX3_cutMore 8 = .ok (.getfield 18, 3) := by decide +kernel
theorem dX3_cutMore_11 : decode cX3_cutMore 11 = .ok (.iload_n 1, 1) := by decide +kernel
theorem dX3_cutMore_12 : decode cX3_cutMore 12 = .ok (.iconst 0, 1) := by decide +kernel
theorem dX3_cutMore_13 : decode cX3_cutMore 13 = .ok (.bipush 99, 2) := by decide +kernel
theorem dX3_cutMore_15 : decode cX3_cutMore 15 = .ok (.iload_n 3, 1) := by decide +kernel
theorem dX3_cutMore_16 : decode cX3_cutMore 16 = .ok (.iload_n 2, 1) := by decide +kernel
theorem dX3_cutMore_17 : decode cX3_cutMore 17 = .ok (.iadd, 1) := by decide +kernel
theorem dX3_cutMore_18 : decode cX3_cutMore 18 = .ok (.invokestatic 66, 3) := by decide +kernel
theorem dX3_cutMore_21 : decode cX3_cutMore 21 = .ok (.invokestatic 56, 3) := by decide +kernel
theorem dX3_cutMore_24 : decode cX3_cutMore 24 = .ok (.iastore, 1) := by decide +kernel
theorem dX3_cutMore_25 : decode cX3_cutMore 25 = .ok (.iload_n 3, 1) := by decide +kernel
theorem dX3_cutMore_26 : decode cX3_cutMore 26 = .ok (.ireturn, 1) := by decide +kernel
theorem dX3_packMore_0 : decode cX3_packMore 0 = .ok (.aload_n 0, 1) := by decide +kernel
theorem dX3_packMore_1 : decode cX3_packMore 1 = .ok (.getfield 37, 3) := by decide +kernel
theorem dX3_packMore_4 : decode cX3_packMore 4 = .ok (.istore_n 2, 1) := by decide +kernel
theorem dX3_packMore_5 : decode cX3_packMore 5 = .ok (.aload_n 0, 1) := by decide +kernel
theorem dX3_packMore_6 : decode cX3_packMore 6 = .ok (.bipush 9, 2) := by decide +kernel
theorem dX3_packMore_8 : decode cX3_packMore 8 = .ok (.iload_n 2, 1) := by decide +kernel
theorem dX3_packMore_9 : decode cX3_packMore 9 = .ok (.iload_n 1, 1) := by decide +kernel
theorem dX3_packMore_10 : decode cX3_packMore 10 = .ok (.iadd, 1) := by decide +kernel
theorem dX3_packMore_11 : decode cX3_packMore 11 = .ok (.invokestatic 66, 3) := by decide +kernel
theorem dX3_packMore_14 : decode cX3_packMore 14 = .ok (.putfield 37, 3) := by decide +kernel
theorem dX3_packMore_17 : decode cX3_packMore 17 = .ok (.iload_n 2, 1) := by decide +kernel
theorem dX3_packMore_18 : decode cX3_packMore 18 = .ok (.ireturn, 1) := by decide +kernel
theorem dX3_driveScrews_0 : decode cX3_driveScrews 0 = .ok (.aload_n 0, 1) := by decide +kernel
theorem dX3_driveScrews_1 : decode cX3_driveScrews 1 = .ok (.getfield 34, 3) := by decide +kernel
theorem dX3_driveScrews_4 : decode cX3_driveScrews 4 = .ok (.istore_n 1, 1) := by decide +kernel
theorem dX3_driveScrews_5 : decode cX3_driveScrews 5 = .ok (.aload_n 0, 1) := by decide +kernel
theorem dX3_driveScrews_6 : decode cX3_driveScrews 6 = .ok (.iconst 0, 1) := by decide +kernel
theorem dX3_driveScrews_7 : decode cX3_driveScrews 7 = .ok (.putfield 34, 3) := by decide +kernel
theorem dX3_driveScrews_10 : decode cX3_driveScrews 10 = .ok (.iload_n 1, 1) := by decide +kernel
theorem dX3_driveScrews_11 : decode cX3_driveScrews 11 = .ok (.ireturn, 1) := by decide +kernel
theorem dX3_paintSide_0 : decode cX3_paintSide 0 = .ok (.aload_n 0, 1) := by decide +kernel
theorem dX3_paintSide_1 : decode cX3_paintSide 1 = .ok (.getfield 15, 3) := by decide +kernel
theorem dX3_paintSide_4 : decode cX3_paintSide 4 = .ok (.iload_n 1, 1) := by decide +kernel
theorem dX3_paintSide_5 : decode cX3_paintSide 5 = .ok (.iaload, 1) := by decide +kernel
theorem dX3_paintSide_6 : decode cX3_paintSide 6 = .ok (.istore_n 2, 1) := by decide +kernel
theorem dX3_paintSide_7 : decode cX3_paintSide 7 = .ok (.aload_n 0, 1) := by decide +kernel
theorem dX3_paintSide_8 : decode cX3_paintSide 8 = .ok (.getfield 15, 3) := by decide +kernel
theorem dX3_paintSide_11 : decode cX3_paintSide 11 = .ok (.iload_n 1, 1) := by decide +kernel
theorem dX3_paintSide_12 : decode cX3_paintSide 12 = .ok (.iconst 1, 1) := by decide +kernel
theorem dX3_paintSide_13 : decode cX3_paintSide 13 = .ok (.iastore, 1) := by decide +kernel
theorem dX3_paintSide_14 : decode cX3_paintSide 14 = .ok (.iload_n 2, 1) := by decide +kernel
theorem dX3_paintSide_15 : decode cX3_paintSide 15 = .ok (.ireturn, 1) := by decide +kernel
theorem dX4_init_0 : decode cX4_init 0 = .ok (.aload_n 0, 1) := by decide +kernel
theorem dX4_init_1 : decode cX4_init 1 = .ok (.invokespecial 3, 3) := by decide +kernel
theorem dX4_init_4 : decode cX4_init 4 = .ok (.aload_n 0, 1) := by decide +kernel
theorem dX4_init_5 : decode cX4_init 5 = .ok (.bipush 12, 2) := by decide +kernel
theorem dX4_init_7 : decode cX4_init 7 = .ok (.newarray .int, 2) := by decide +kernel
theorem dX4_init_9 : decode cX4_init 9 = .ok (.putfield 9, 3) := by decide +kernel
theorem dX4_init_12 : decode cX4_init 12 = .ok (.aload_n 0, 1) := by decide +kernel
theorem dX4_init_13 : decode cX4_init 13 = .ok (.iconst 4, 1) := by decide +kernel
theorem dX4_init_14 : decode cX4_init 14 = .ok (.anewarray 15, 3) := by decide +kernel
theorem dX4_init_17 : decode cX4_init 17 = .ok (.putfield 17, 3) := by decide +kernel
theorem dX4_init_20 : decode cX4_init 20 = .ok (.aload_n 0, 1) := by decide +kernel
theorem dX4_init_21 : decode cX4_init 21 = .ok (.iconst (-1), 1) := by decide +kernel
theorem dX4_init_22 : decode cX4_init 22 = .ok (.putfield 21, 3) := by decide +kernel
theorem dX4_init_25 : decode cX4_init 25 = .ok (.aload_n 0, 1) := by decide +kernel
theorem dX4_init_26 : decode cX4_init 26 = .ok (.bipush 12, 2) := by decide +kernel
theorem dX4_init_28 : decode cX4_init 28 = .ok (.newarray .int, 2) := by decide +kernel
theorem dX4_init_30 : decode cX4_init 30 = .ok (.putfield 25, 3) := by decide +kernel
theorem dX4_init_33 : decode cX4_init 33 = .ok (.aload_n 0, 1) := by decide +kernel
theorem dX4_init_34 : decode cX4_init 34 = .ok (.bipush 12, 2) := by decide +kernel
theorem dX4_init_36 : decode cX4_init 36 = .ok (.newarray .int, 2) := by decide +kernel
theorem dX4_init_38 : decode cX4_init 38 = .ok (.putfield 28, 3) := by decide +kernel
theorem dX4_init_41 : decode cX4_init 41 = .ok (.aload_n 0, 1) := by decide +kernel
theorem dX4_init_42 : decode cX4_init 42 = .ok (.getfield 9, 3) := by decide +kernel
theorem dX4_init_45 : decode cX4_init 45 = .ok (.bipush 50, 2) := by decide +kernel
theorem dX4_init_47 : decode cX4_init 47 = .ok (.invokestatic 31, 3) := by decide +kernel
theorem dX4_init_50 : decode cX4_init 50 = .ok (.iconst 0, 1) := by decide +kernel
theorem dX4_init_51 : decode cX4_init 51 = .ok (.istore_n 1, 1) := by decide +kernel
theorem dX4_init_52 : decode cX4_init 52 = .ok (.iload_n 1, 1) := by decide +kernel
theorem dX4_init_53 : decode cX4_init 53 = .ok (.iconst 4, 1) := by decide +kernel
theorem dX4_init_54 : decode cX4_init 54 = .ok (.if_icmp .ge 22, 3) := by decide +kernel
theorem dX4_init_57 : decode cX4_init 57 = .ok (.aload_n 0, 1) := by decide +kernel
theorem dX4_init_58 : decode cX4_init 58 = .ok (.getfield 17, 3) := by decide +kernel
theorem dX4_init_61 : decode cX4_init 61 = .ok (.iload_n 1, 1) := by decide +kernel
theorem dX4_init_62 : decode cX4_init 62 = .ok (.new 15, 3) := by decide +kernel
theorem dX4_init_65 : decode cX4_init 65 = .ok (.dup, 1) := by decide +kernel
theorem dX4_init_66 : decode cX4_init 66 = .ok (.invokespecial 37, 3) := by decide +kernel
theorem dX4_init_69 : decode cX4_init 69 = .ok (.aastore, 1) := by decide +kernel
theorem dX4_init_70 : decode cX4_init 70 = .ok (.iinc 1 1, 3) := by decide +kernel
theorem dX4_init_73 : decode cX4_init 73 = .ok (.goto (-21), 3) := by decide +kernel
theorem dX4_init_76 : decode cX4_init 76 = .ok (.return_, 1) := by decide +kernel
theorem dX4_become_0 : decode cX4_become 0 = .ok (.aload_n 1, 1) := by decide +kernel
theorem dX4_become_1 : decode cX4_become 1 = .ok (.getfield 9, 3) := by decide +kernel
theorem dX4_become_4 : decode cX4_become 4 = .ok (.iconst 0, 1) := by decide +kernel
theorem dX4_become_5 : decode cX4_become 5 = .ok (.aload_n 0, 1) := by decide +kernel
theorem dX4_become_6 : decode cX4_become 6 = .ok (.getfield 9, 3) := by decide +kernel
theorem dX4_become_9 : decode cX4_become 9 = .ok (.iconst 0, 1) := by decide +kernel
theorem dX4_become_10 : decode cX4_become 10 = .ok (.bipush 12, 2) := by decide +kernel
theorem dX4_become_12 : decode cX4_become 12 = .ok (.invokestatic 38, 3) := by decide +kernel
theorem dX4_become_15 : decode cX4_become 15 = .ok (.iconst 0, 1) := by decide +kernel
theorem dX4_become_16 : decode cX4_become 16 = .ok (.istore_n 2, 1) := by decide +kernel
theorem dX4_become_17 : decode cX4_become 17 = .ok (.iload_n 2, 1) := by decide +kernel
theorem dX4_become_18 : decode cX4_become 18 = .ok (.iconst 4, 1) := by decide +kernel
theorem dX4_become_19 : decode cX4_become 19 = .ok (.if_icmp .ge 24, 3) := by decide +kernel
theorem dX4_become_22 : decode cX4_become 22 = .ok (.aload_n 0, 1) := by decide +kernel
theorem dX4_become_23 : decode cX4_become 23 = .ok (.getfield 17, 3) := by decide +kernel
theorem dX4_become_26 : decode cX4_become 26 = .ok (.iload_n 2, 1) := by decide +kernel
theorem dX4_become_27 : decode cX4_become 27 = .ok (.aaload, 1) := by decide +kernel
theorem dX4_become_28 : decode cX4_become 28 = .ok (.aload_n 1, 1) := by decide +kernel
theorem dX4_become_29 : decode cX4_become 29 = .ok (.getfield 17, 3) := by decide +kernel
theorem dX4_become_32 : decode cX4_become 32 = .ok (.iload_n 2, 1) := by decide +kernel
theorem dX4_become_33 : decode cX4_become 33 = .ok (.aaload, 1) := by decide +kernel
theorem dX4_become_34 : decode cX4_become 34 = .ok (.invokevirtual 44, 3) := by decide +kernel
theorem dX4_become_37 : decode cX4_become 37 = .ok (.iinc 2 1, 3) := by decide +kernel
theorem dX4_become_40 : decode cX4_become 40 = .ok (.goto (-23), 3) := by decide +kernel
theorem dX4_become_43 : decode cX4_become 43 = .ok (.aload_n 0, 1) := by decide +kernel
theorem dX4_become_44 : decode cX4_become 44 = .ok (.aload_n 1, 1) := by decide +kernel
theorem dX4_become_45 : decode cX4_become 45 = .ok (.getfield 48, 3) := by decide +kernel
theorem dX4_become_48 : decode cX4_become 48 = .ok (.putfield 48, 3) := by decide +kernel
theorem dX4_become_51 : decode cX4_become 51 = .ok (.aload_n 0, 1) := by decide +kernel
theorem dX4_become_52 : decode cX4_become 52 = .ok (.aload_n 1, 1) := by decide +kernel
theorem dX4_become_53 : decode cX4_become 53 = .ok (.getfield 51, 3) := by decide +kernel
theorem dX4_become_56 : decode cX4_become 56 = .ok (.putfield 51, 3) := by decide +kernel
theorem dX4_become_59 : decode cX4_become 59 = .ok (.aload_n 0, 1) := by decide +kernel
theorem dX4_become_60 : decode cX4_become 60 = .ok (.aload_n 1, 1) := by decide +kernel
theorem dX4_become_61 : decode cX4_become 61 = .ok (.getfield 54, 3) := by decide +kernel
theorem dX4_become_64 : decode cX4_become 64 = .ok (.putfield 54, 3) := by decide +kernel
theorem dX4_become_67 : decode cX4_become 67 = .ok (.aload_n 0, 1) := by decide +kernel
theorem dX4_become_68 : decode cX4_become 68 = .ok (.aload_n 1, 1) := by decide +kernel
theorem dX4_become_69 : decode cX4_become 69 = .ok (.getfield 21, 3) := by decide +kernel
theorem dX4_become_72 : decode cX4_become 72 = .ok (.putfield 21, 3) := by decide +kernel
theorem dX4_become_75 : decode cX4_become 75 = .ok (.aload_n 1, 1) := by decide +kernel
theorem dX4_become_76 : decode cX4_become 76 = .ok (.getfield 25, 3) := by decide +kernel
theorem dX4_become_79 : decode cX4_become 79 = .ok (.iconst 0, 1) := by decide +kernel
theorem dX4_become_80 : decode cX4_become 80 = .ok (.aload_n 0, 1) := by decide +kernel
theorem dX4_become_81 : decode cX4_become 81 = .ok (.getfield 25, 3) := by decide +kernel
theorem dX4_become_84 : decode cX4_become 84 = .ok (.iconst 0, 1) := by decide +kernel
theorem dX4_become_85 : decode cX4_become 85 = .ok (.bipush 12, 2) := by decide +kernel
theorem dX4_become_87 : decode cX4_become 87 = .ok (.invokestatic 38, 3) := by decide +kernel
theorem dX4_become_90 : decode cX4_become 90 = .ok (.aload_n 1, 1) := by decide +kernel
theorem dX4_become_91 : decode cX4_become 91 = .ok (.getfield 28, 3) := by decide +kernel
theorem dX4_become_94 : decode cX4_become 94 = .ok (.iconst 0, 1) := by decide +kernel
theorem dX4_become_95 : decode cX4_become 95 = .ok (.aload_n 0, 1) := by decide +kernel
theorem dX4_become_96 : decode cX4_become 96 = .ok (.getfield 28, 3) := by decide +kernel
theorem dX4_become_99 : decode cX4_become 99 = .ok (.iconst 0, 1) := by decide +kernel
theorem dX4_become_100 : decode cX4_become 100 = .ok (.bipush 12, 2) := by decide +kernel
theorem dX4_become_102 : decode cX4_become 102 = .ok (.invokestatic 38, 3) := by decide +kernel
theorem dX4_become_105 : decode cX4_become 105 = .ok (.aload_n 0, 1) := by decide +kernel
theorem dX4_become_106 : decode cX4_become 106 = .ok (.aload_n 1, 1) := by decide +kernel
theorem dX4_become_107 : decode cX4_become 107 = .ok (.getfield 57, 3) := by decide +kernel
theorem dX4_become_110 : decode cX4_become 110 = .ok (.putfield 57, 3) := by decide +kernel
theorem dX4_become_113 : decode cX4_become 113 = .ok (.return_, 1) := by decide +kernel
theorem dX5_init_0 : decode cX5_init 0 = .ok (.aload_n 0, 1) := by decide +kernel
theorem dX5_init_1 : decode cX5_init 1 = .ok (.invokespecial 1, 3) := by decide +kernel
theorem dX5_init_4 : decode cX5_init 4 = .ok (.aload_n 0, 1) := by decide +kernel
theorem dX5_init_5 : decode cX5_init 5 = .ok (.aload_n 1, 1) := by decide +kernel
theorem dX5_init_6 : decode cX5_init 6 = .ok (.putfield 7, 3) := by decide +kernel
theorem dX5_init_9 : decode cX5_init 9 = .ok (.iconst 0, 1) := by decide +kernel
theorem dX5_init_10 : decode cX5_init 10 = .ok (.istore_n 2, 1) := by decide +kernel
theorem dX5_init_11 : decode cX5_init 11 = .ok (.iconst 0, 1) := by decide +kernel
theorem dX5_init_12 : decode cX5_init 12 = .ok (.istore_n 3, 1) := by decide +kernel
theorem dX5_init_13 : decode cX5_init 13 = .ok (.bipush 9, 2) := by decide +kernel
theorem dX5_init_15 : decode cX5_init 15 = .ok (.istore 4, 2) := by decide +kernel
theorem dX5_init_17 : decode cX5_init 17 = .ok (.aload_n 1, 1) := by decide +kernel
theorem dX5_init_18 : decode cX5_init 18 = .ok (.astore 5, 2) := by decide +kernel
theorem dX5_init_20 : decode cX5_init 20 = .ok (.aload 5, 2) := by decide +kernel
theorem dX5_init_22 : decode cX5_init 22 = .ok (.arraylength, 1) := by decide +kernel
theorem dX5_init_23 : decode cX5_init 23 = .ok (.istore 6, 2) := by decide +kernel
theorem dX5_init_25 : decode cX5_init 25 = .ok (.iconst 0, 1) := by decide +kernel
theorem dX5_init_26 : decode cX5_init 26 = .ok (.istore 7, 2) := by decide +kernel
theorem dX5_init_28 : decode cX5_init 28 = .ok (.iload 7, 2) := by decide +kernel
theorem dX5_init_30 : decode cX5_init 30 = .ok (.iload 6, 2) := by decide +kernel
theorem dX5_init_32 : decode cX5_init 32 = .ok (.if_icmp .ge 74, 3) := by decide +kernel
theorem dX5_init_35 : decode cX5_init 35 = .ok (.aload 5, 2) := by decide +kernel
theorem dX5_init_37 : decode cX5_init 37 = .ok (.iload 7, 2) := by decide +kernel
theorem dX5_init_39 : decode cX5_init 39 = .ok (.aaload, 1) := by decide +kernel
theorem dX5_init_40 : decode cX5_init 40 = .ok (.astore 8, 2) := by decide +kernel
theorem dX5_init_42 : decode cX5_init 42 = .ok (.iload_n 2, 1) := by decide +kernel
theorem dX5_init_43 : decode cX5_init 43 = .ok (.ifCond .ne 11, 3) := by decide +kernel
theorem dX5_init_46 : decode cX5_init 46 = .ok (.aload 8, 2) := by decide +kernel
theorem dX5_init_48 : decode cX5_init 48 = .ok (.getfield 13, 3) := by decide +kernel
theorem dX5_init_51 : decode cX5_init 51 = .ok (.ifCond .ne 7, 3) := by decide +kernel
theorem dX5_init_54 : decode cX5_init 54 = .ok (.iconst 1, 1) := by decide +kernel
theorem dX5_init_55 : decode cX5_init 55 = .ok (.goto 4, 3) := by decide +kernel
theorem dX5_init_58 : decode cX5_init 58 = .ok (.iconst 0, 1) := by decide +kernel
theorem dX5_init_59 : decode cX5_init 59 = .ok (.istore_n 2, 1) := by decide +kernel
theorem dX5_init_60 : decode cX5_init 60 = .ok (.aload 8, 2) := by decide +kernel
theorem dX5_init_62 : decode cX5_init 62 = .ok (.getfield 13, 3) := by decide +kernel
theorem dX5_init_65 : decode cX5_init 65 = .ok (.iconst 2, 1) := by decide +kernel
theorem dX5_init_66 : decode cX5_init 66 = .ok (.if_icmp .ne 11, 3) := by decide +kernel
theorem dX5_init_69 : decode cX5_init 69 = .ok (.aload 8, 2) := by decide +kernel
theorem dX5_init_71 : decode cX5_init 71 = .ok (.getfield 21, 3) := by decide +kernel
theorem dX5_init_74 : decode cX5_init 74 = .ok (.goto 4, 3) := by decide +kernel
theorem dX5_init_77 : decode cX5_init 77 = .ok (.iload_n 3, 1) := by decide +kernel
theorem dX5_init_78 : decode cX5_init 78 = .ok (.istore_n 3, 1) := by decide +kernel
theorem dX5_init_79 : decode cX5_init 79 = .ok (.aload 8, 2) := by decide +kernel
theorem dX5_init_81 : decode cX5_init 81 = .ok (.getfield 13, 3) := by decide +kernel
theorem dX5_init_84 : decode cX5_init 84 = .ok (.iconst 3, 1) := by decide +kernel
theorem dX5_init_85 : decode cX5_init 85 = .ok (.if_icmp .ne 11, 3) := by decide +kernel
theorem dX5_init_88 : decode cX5_init 88 = .ok (.aload 8, 2) := by decide +kernel
theorem dX5_init_90 : decode cX5_init 90 = .ok (.getfield 21, 3) := by decide +kernel
theorem dX5_init_93 : decode cX5_init 93 = .ok (.goto 5, 3) := by decide +kernel
theorem dX5_init_96 : decode cX5_init 96 = .ok (.iload 4, 2) := by decide +kernel
theorem dX5_init_98 : decode cX5_init 98 = .ok (.istore 4, 2) := by decide +kernel
theorem dX5_init_100 : decode cX5_init 100 = .ok (.iinc 7 1, 3) := by decide +kernel
theorem dX5_init_103 : decode cX5_init 103 = .ok (.goto (-75), 3) := by decide +kernel
theorem dX5_init_106 : decode cX5_init 106 = .ok (.aload_n 0, 1) := by decide +kernel
theorem dX5_init_107 : decode cX5_init 107 = .ok (.iload_n 2, 1) := by decide +kernel
theorem dX5_init_108 : decode cX5_init 108 = .ok (.putfield 24, 3) := by decide +kernel
theorem dX5_init_111 : decode cX5_init 111 = .ok (.aload_n 0, 1) := by decide +kernel
theorem dX5_init_112 : decode cX5_init 112 = .ok (.iload_n 3, 1) := by decide +kernel
theorem dX5_init_113 : decode cX5_init 113 = .ok (.putfield 28, 3) := by decide +kernel
theorem dX5_init_116 : decode cX5_init 116 = .ok (.aload_n 0, 1) := by decide +kernel
theorem dX5_init_117 : decode cX5_init 117 = .ok (.iload 4, 2) := by decide +kernel
theorem dX5_init_119 : decode cX5_init 119 = .ok (.putfield 31, 3) := by decide +kernel
theorem dX5_init_122 : decode cX5_init 122 = .ok (.return_, 1) := by decide +kernel
theorem dX5_total_0 : decode cX5_total 0 = .ok (.iconst 0, 1) := by decide +kernel
theorem dX5_total_1 : decode cX5_total 1 = .ok (.istore_n 3, 1) := by decide +kernel
theorem dX5_total_2 : decode cX5_total 2 = .ok (.aload_n 0, 1) := by decide +kernel
theorem dX5_total_3 : decode cX5_total 3 = .ok (.getfield 7, 3) := by decide +kernel
theorem dX5_total_6 : decode cX5_total 6 = .ok (.astore 4, 2) := by decide +kernel
theorem dX5_total_8 : decode cX5_total 8 = .ok (.aload 4, 2) := by decide +kernel
theorem dX5_total_10 : decode cX5_total 10 = .ok (.arraylength, 1) := by decide +kernel
theorem dX5_total_11 : decode cX5_total 11 = .ok (.istore 5, 2) := by decide +kernel
theorem dX5_total_13 : decode cX5_total 13 = .ok (.iconst 0, 1) := by decide +kernel
theorem dX5_total_14 : decode cX5_total 14 = .ok (.istore 6, 2) := by decide +kernel
theorem dX5_total_16 : decode cX5_total 16 = .ok (.iload 6, 2) := by decide +kernel
theorem dX5_total_18 : decode cX5_total 18 = .ok (.iload 5, 2) := by decide +kernel
theorem dX5_total_20 : decode cX5_total 20 = .ok (.if_icmp .ge 42, 3) := by decide +kernel
theorem dX5_total_23 : decode cX5_total 23 = .ok (.aload 4, 2) := by decide +kernel
theorem dX5_total_25 : decode cX5_total 25 = .ok (.iload 6, 2) := by decide +kernel
theorem dX5_total_27 : decode cX5_total 27 = .ok (.aaload, 1) := by decide +kernel
theorem dX5_total_28 : decode cX5_total 28 = .ok (.astore 7, 2) := by decide +kernel
theorem dX5_total_30 : decode cX5_total 30 = .ok (.aload 7, 2) := by decide +kernel
theorem dX5_total_32 : decode cX5_total 32 = .ok (.getfield 13, 3) := by decide +kernel
theorem dX5_total_35 : decode cX5_total 35 = .ok (.iload_n 1, 1) := by decide +kernel
theorem dX5_total_36 : decode cX5_total 36 = .ok (.if_icmp .ne 20, 3) := by decide +kernel
theorem dX5_total_39 : decode cX5_total 39 = .ok (.aload 7, 2) := by decide +kernel
theorem dX5_total_41 : decode cX5_total 41 = .ok (.aload_n 2, 1) := by decide +kernel
theorem dX5_total_42 : decode cX5_total 42 = .ok (.invokevirtual 34, 3) := by decide +kernel
theorem dX5_total_45 : decode cX5_total 45 = .ok (.ifCond .eq 11, 3) := by decide +kernel
theorem dX5_total_48 : decode cX5_total 48 = .ok (.iload_n 3, 1) := by decide +kernel
theorem dX5_total_49 : decode cX5_total 49 = .ok (.aload 7, 2) := by decide +kernel
theorem dX5_total_51 : decode cX5_total 51 = .ok (.getfield 21, 3) := by decide +kernel
theorem dX5_total_54 : decode cX5_total 54 = .ok (.iadd, 1) := by decide +kernel
theorem dX5_total_55 : decode cX5_total 55 = .ok (.istore_n 3, 1) := by decide +kernel
theorem dX5_total_56 : decode cX5_total 56 = .ok (.iinc 6 1, 3) := by decide +kernel
theorem dX5_total_59 : decode cX5_total 59 = .ok (.goto (-43), 3) := by decide +kernel
theorem dX5_total_62 : decode cX5_total 62 = .ok (.iload_n 3, 1) := by decide +kernel
theorem dX5_total_63 : decode cX5_total 63 = .ok (.ireturn, 1) := by decide +kernel
theorem dX6_init_0 : decode cX6_init 0 = .ok (.aload_n 0, 1) := by decide +kernel
theorem dX6_init_1 : decode cX6_init 1 = .ok (.invokespecial 1, 3) := by decide +kernel
theorem dX6_init_4 : decode cX6_init 4 = .ok (.aload_n 0, 1) := by decide +kernel
theorem dX6_init_5 : decode cX6_init 5 = .ok (.bipush 100, 2) := by decide +kernel
theorem dX6_init_7 : decode cX6_init 7 = .ok (.newarray .int, 2) := by decide +kernel
theorem dX6_init_9 : decode cX6_init 9 = .ok (.putfield 9, 3) := by decide +kernel
theorem dX6_init_12 : decode cX6_init 12 = .ok (.aload_n 0, 1) := by decide +kernel
theorem dX6_init_13 : decode cX6_init 13 = .ok (.bipush 10, 2) := by decide +kernel
theorem dX6_init_15 : decode cX6_init 15 = .ok (.anewarray 13, 3) := by decide +kernel
theorem dX6_init_18 : decode cX6_init 18 = .ok (.putfield 15, 3) := by decide +kernel
theorem dX6_init_21 : decode cX6_init 21 = .ok (.aload_n 0, 1) := by decide +kernel
theorem dX6_init_22 : decode cX6_init 22 = .ok (.bipush 100, 2) := by decide +kernel
theorem dX6_init_24 : decode cX6_init 24 = .ok (.newarray .int, 2) := by decide +kernel
theorem dX6_init_26 : decode cX6_init 26 = .ok (.putfield 19, 3) := by decide +kernel
theorem dX6_init_29 : decode cX6_init 29 = .ok (.return_, 1) := by decide +kernel
theorem dX6_append_0 : decode cX6_append 0 = .ok (.aload_n 0, 1) := by decide +kernel
theorem dX6_append_1 : decode cX6_append 1 = .ok (.getfield 22, 3) := by decide +kernel
theorem dX6_append_4 : decode cX6_append 4 = .ok (.bipush 100, 2) := by decide +kernel
theorem dX6_append_6 : decode cX6_append 6 = .ok (.if_icmp .lt 5, 3) := by decide +kernel
theorem dX6_append_9 : decode cX6_append 9 = .ok (.iconst 0, 1) := by decide +kernel
theorem dX6_append_10 : decode cX6_append 10 = .ok (.ireturn, 1) := by decide +kernel
theorem dX6_append_11 : decode cX6_append 11 = .ok (.aload_n 0, 1) := by decide +kernel
theorem dX6_append_12 : decode cX6_append 12 = .ok (.getfield 9, 3) := by decide +kernel
theorem dX6_append_15 : decode cX6_append 15 = .ok (.aload_n 0, 1) := by decide +kernel
theorem dX6_append_16 : decode cX6_append 16 = .ok (.getfield 22, 3) := by decide +kernel
theorem dX6_append_19 : decode cX6_append 19 = .ok (.iload_n 1, 1) := by decide +kernel
theorem dX6_append_20 : decode cX6_append 20 = .ok (.iastore, 1) := by decide +kernel
theorem dX6_append_21 : decode cX6_append 21 = .ok (.aload_n 0, 1) := by decide +kernel
theorem dX6_append_22 : decode cX6_append 22 = .ok (.dup, 1) := by decide +kernel
theorem dX6_append_23 : decode cX6_append 23 = .ok (.getfield 22, 3) := by decide +kernel
theorem dX6_append_26 : decode cX6_append 26 = .ok (.iconst 1, 1) := by decide +kernel
theorem dX6_append_27 : decode cX6_append 27 = .ok (.iadd, 1) := by decide +kernel
theorem dX6_append_28 : decode cX6_append 28 = .ok (.putfield 22, 3) := by decide +kernel
theorem dX6_append_31 : decode cX6_append 31 = .ok (.iconst 1, 1) := by decide +kernel
theorem dX6_append_32 : decode cX6_append 32 = .ok (.ireturn, 1) := by decide +kernel
theorem dX6_parse_0 : decode cX6_parse 0 = .ok (.aload_n 0, 1) := by decide +kernel
theorem dX6_parse_1 : decode cX6_parse 1 = .ok (.iconst 0, 1) := by decide +kernel
theorem dX6_parse_2 : decode cX6_parse 2 = .ok (.putfield 26, 3) := by decide +kernel
theorem dX6_parse_5 : decode cX6_parse 5 = .ok (.aload_n 0, 1) := by decide +kernel
theorem dX6_parse_6 : decode cX6_parse 6 = .ok (.iconst 0, 1) := by decide +kernel
theorem dX6_parse_7 : decode cX6_parse 7 = .ok (.putfield 29, 3) := by decide +kernel
theorem dX6_parse_10 : decode cX6_parse 10 = .ok (.iconst 0, 1) := by decide +kernel
theorem dX6_parse_11 : decode cX6_parse 11 = .ok (.istore_n 1, 1) := by decide +kernel
theorem dX6_parse_12 : decode cX6_parse 12 = .ok (.iload_n 1, 1) := by decide +kernel
theorem dX6_parse_13 : decode cX6_parse 13 = .ok (.bipush 10, 2) := by decide +kernel
theorem dX6_parse_15 : decode cX6_parse 15 = .ok (.if_icmp .ge 136, 3) := by decide +kernel
theorem dX6_parse_18 : decode cX6_parse 18 = .ok (.iload_n 1, 1) := by decide +kernel
theorem dX6_parse_19 : decode cX6_parse 19 = .ok (.ifCond .le 17, 3) := by decide +kernel
theorem dX6_parse_22 : decode cX6_parse 22 = .ok (.aload_n 0, 1) := by decide +kernel
theorem dX6_parse_23 : decode cX6_parse 23 = .ok (.bipush 59, 2) := by decide +kernel
theorem dX6_parse_25 : decode cX6_parse 25 = .ok (.invokevirtual 32, 3) := by decide +kernel
theorem dX6_parse_28 : decode cX6_parse 28 = .ok (.ifCond .ne 8, 3) := by decide +kernel
theorem dX6_parse_31 : decode cX6_parse 31 = .ok (.aload_n 0, 1) := by decide +kernel
theorem dX6_parse_32 : decode cX6_parse 32 = .ok (.getfield 26, 3) := by decide +kernel
theorem dX6_parse_35 : decode cX6_parse 35 = .ok (.ireturn, 1) := by decide +kernel
theorem dX6_parse_36 : decode cX6_parse 36 = .ok (.aload_n 0, 1) := by decide +kernel
theorem dX6_parse_37 : decode cX6_parse 37 = .ok (.invokevirtual 36, 3) := by decide +kernel
theorem dX6_parse_40 : decode cX6_parse 40 = .ok (.istore_n 2, 1) := by decide +kernel
theorem dX6_parse_41 : decode cX6_parse 41 = .ok (.iload_n 2, 1) := by decide +kernel
theorem dX6_parse_42 : decode cX6_parse 42 = .ok (.ifCond .ge 7, 3) := by decide +kernel
theorem dX6_parse_45 : decode cX6_parse 45 = .ok (.iconst (-1), 1) := by decide +kernel
theorem dX6_parse_46 : decode cX6_parse 46 = .ok (.goto 7, 3) := by decide +kernel
theorem dX6_parse_49 : decode cX6_parse 49 = .ok (.aload_n 0, 1) := by decide +kernel
theorem dX6_parse_50 : decode cX6_parse 50 = .ok (.invokevirtual 40, 3) := by decide +kernel
theorem dX6_parse_53 : decode cX6_parse 53 = .ok (.istore_n 3, 1) := by decide +kernel
theorem dX6_parse_54 : decode cX6_parse 54 = .ok (.iload_n 3, 1) := by decide +kernel
theorem dX6_parse_55 : decode cX6_parse 55 = .ok (.ifCond .ge 8, 3) := by decide +kernel
theorem dX6_parse_58 : decode cX6_parse 58 = .ok (.aload_n 0, 1) := by decide +kernel
theorem dX6_parse_59 : decode cX6_parse 59 = .ok (.getfield 26, 3) := by decide +kernel
theorem dX6_parse_62 : decode cX6_parse 62 = .ok (.ireturn, 1) := by decide +kernel
theorem dX6_parse_63 : decode cX6_parse 63 = .ok (.aload_n 0, 1) := by decide +kernel
theorem dX6_parse_64 : decode cX6_parse 64 = .ok (.iconst 0, 1) := by decide +kernel
theorem dX6_parse_65 : decode cX6_parse 65 = .ok (.putfield 43, 3) := by decide +kernel
theorem dX6_parse_68 : decode cX6_parse 68 = .ok (.iload_n 2, 1) := by decide +kernel
theorem dX6_parse_69 : decode cX6_parse 69 = .ok (.ifCond .eq 8, 3) := by decide +kernel
theorem dX6_parse_72 : decode cX6_parse 72 = .ok (.iload_n 2, 1) := by decide +kernel
theorem dX6_parse_73 : decode cX6_parse 73 = .ok (.iconst 1, 1) := by decide +kernel
theorem dX6_parse_74 : decode cX6_parse 74 = .ok (.if_icmp .ne 25, 3) := by decide +kernel
theorem dX6_parse_77 : decode cX6_parse 77 = .ok (.aload_n 0, 1) := by decide +kernel
theorem dX6_parse_78 : decode cX6_parse 78 = .ok (.bipush 32, 2) := by decide +kernel
theorem dX6_parse_80 : decode cX6_parse 80 = .ok (.invokevirtual 32, 3) := by decide +kernel
theorem dX6_parse_83 : decode cX6_parse 83 = .ok (.ifCond .eq 11, 3) := by decide +kernel
theorem dX6_parse_86 : decode cX6_parse 86 = .ok (.aload_n 0, 1) := by decide +kernel
theorem dX6_parse_87 : decode cX6_parse 87 = .ok (.iconst 0, 1) := by decide +kernel
theorem dX6_parse_88 : decode cX6_parse 88 = .ok (.invokevirtual 46, 3) := by decide +kernel
theorem dX6_parse_91 : decode cX6_parse 91 = .ok (.ifCond .ne 8, 3) := by decide +kernel
theorem dX6_parse_94 : decode cX6_parse 94 = .ok (.aload_n 0, 1) := by decide +kernel
theorem dX6_parse_95 : decode cX6_parse 95 = .ok (.getfield 26, 3) := by decide +kernel
theorem dX6_parse_98 : decode cX6_parse 98 = .ok (.ireturn, 1) := by decide +kernel
theorem dX6_parse_99 : decode cX6_parse 99 = .ok (.aload_n 0, 1) := by decide +kernel
theorem dX6_parse_100 : decode cX6_parse 100 = .ok (.getfield 15, 3) := by decide +kernel
theorem dX6_parse_103 : decode cX6_parse 103 = .ok (.iload_n 1, 1) := by decide +kernel
theorem dX6_parse_104 : decode cX6_parse 104 = .ok (.new 13, 3) := by decide +kernel
theorem dX6_parse_107 : decode cX6_parse 107 = .ok (.dup, 1) := by decide +kernel
theorem dX6_parse_108 : decode cX6_parse 108 = .ok (.iload_n 2, 1) := by decide +kernel
theorem dX6_parse_109 : decode cX6_parse 109 = .ok (.iload_n 3, 1) := by decide +kernel
theorem dX6_parse_110 : decode cX6_parse 110 = .ok (.aload_n 0, 1) := by decide +kernel
theorem dX6_parse_111 : decode cX6_parse 111 = .ok (.getfield 19, 3) := by decide +kernel
theorem dX6_parse_114 : decode cX6_parse 114 = .ok (.aload_n 0, 1) := by decide +kernel
theorem dX6_parse_115 : decode cX6_parse 115 = .ok (.getfield 43, 3) := by decide +kernel
theorem dX6_parse_118 : decode cX6_parse 118 = .ok (.invokestatic 50, 3) := by decide +kernel
theorem dX6_parse_121 : decode cX6_parse 121 = .ok (.invokespecial 56, 3) := by decide +kernel
theorem dX6_parse_124 : decode cX6_parse 124 = .ok (.aastore, 1) := by decide +kernel
theorem dX6_parse_125 : decode cX6_parse 125 = .ok (.aload_n 0, 1) := by decide +kernel
theorem dX6_parse_126 : decode cX6_parse 126 = .ok (.iload_n 1, 1) := by decide +kernel
theorem dX6_parse_127 : decode cX6_parse 127 = .ok (.iconst 1, 1) := by decide +kernel
theorem dX6_parse_128 : decode cX6_parse 128 = .ok (.iadd, 1) := by decide +kernel
theorem dX6_parse_129 : decode cX6_parse 129 = .ok (.putfield 29, 3) := by decide +kernel
theorem dX6_parse_132 : decode cX6_parse 132 = .ok (.aload_n 0, 1) := by decide +kernel
theorem dX6_parse_133 : decode cX6_parse 133 = .ok (.getfield 26, 3) := by decide +kernel
theorem dX6_parse_136 : decode cX6_parse 136 = .ok (.aload_n 0, 1) := by decide +kernel
theorem dX6_parse_137 : decode cX6_parse 137 = .ok (.getfield 22, 3) := by decide +kernel
theorem dX6_parse_140 : decode cX6_parse 140 = .ok (.if_icmp .lt 5, 3) := by decide +kernel
theorem dX6_parse_143 : decode cX6_parse 143 = .ok (.iconst (-1), 1) := by decide +kernel
theorem dX6_parse_144 : decode cX6_parse 144 = .ok (.ireturn, 1) := by decide +kernel
theorem dX6_parse_145 : decode cX6_parse 145 = .ok (.iinc 1 1, 3) := by decide +kernel
theorem dX6_parse_148 : decode cX6_parse 148 = .ok (.goto (-136), 3) := by decide +kernel
theorem dX6_parse_151 : decode cX6_parse 151 = .ok (.aload_n 0, 1) := by decide +kernel
theorem dX6_parse_152 : decode cX6_parse 152 = .ok (.getfield 26, 3) := by decide +kernel
theorem dX6_parse_155 : decode cX6_parse 155 = .ok (.ireturn, 1) := by decide +kernel
theorem dX6_built_0 : decode cX6_built 0 = .ok (.aload_n 0, 1) := by decide +kernel
theorem dX6_built_1 : decode cX6_built 1 = .ok (.getfield 29, 3) := by decide +kernel
theorem dX6_built_4 : decode cX6_built 4 = .ok (.anewarray 13, 3) := by decide +kernel
theorem dX6_built_7 : decode cX6_built 7 = .ok (.astore_n 1, 1) := by decide +kernel
theorem dX6_built_8 : decode cX6_built 8 = .ok (.iconst 0, 1) := by decide +kernel
theorem dX6_built_9 : decode cX6_built 9 = .ok (.istore_n 2, 1) := by decide +kernel
theorem dX6_built_10 : decode cX6_built 10 = .ok (.iload_n 2, 1) := by decide +kernel
theorem dX6_built_11 : decode cX6_built 11 = .ok (.aload_n 0, 1) := by decide +kernel
theorem dX6_built_12 : decode cX6_built 12 = .ok (.getfield 29, 3) := by decide +kernel
theorem dX6_built_15 : decode cX6_built 15 = .ok (.if_icmp .ge 18, 3) := by decide +kernel
theorem dX6_built_18 : decode cX6_built 18 = .ok (.aload_n 1, 1) := by decide +kernel
theorem dX6_built_19 : decode cX6_built 19 = .ok (.iload_n 2, 1) := by decide +kernel
theorem dX6_built_20 : decode cX6_built 20 = .ok (.aload_n 0, 1) := by decide +kernel
theorem dX6_built_21 : decode cX6_built 21 = .ok (.getfield 15, 3) := by decide +kernel
theorem dX6_built_24 : decode cX6_built 24 = .ok (.iload_n 2, 1) := by decide +kernel
theorem dX6_built_25 : decode cX6_built 25 = .ok (.aaload, 1) := by decide +kernel
theorem dX6_built_26 : decode cX6_built 26 = .ok (.aastore, 1) := by decide +kernel
theorem dX6_built_27 : decode cX6_built 27 = .ok (.iinc 2 1, 3) := by decide +kernel
theorem dX6_built_30 : decode cX6_built 30 = .ok (.goto (-20), 3) := by decide +kernel
theorem dX6_built_33 : decode cX6_built 33 = .ok (.new 59, 3) := by decide +kernel
theorem dX6_built_36 : decode cX6_built 36 = .ok (.dup, 1) := by decide +kernel
theorem dX6_built_37 : decode cX6_built 37 = .ok (.aload_n 1, 1) := by decide +kernel
theorem dX6_built_38 : decode cX6_built 38 = .ok (.invokespecial 61, 3) := by decide +kernel
theorem dX6_built_41 : decode cX6_built 41 = .ok (.areturn, 1) := by decide +kernel
theorem dX6_takesAnyOf_0 : decode cX6_takesAnyOf 0 = .ok (.aload_n 0, 1) := by decide +kernel
theorem dX6_takesAnyOf_1 : decode cX6_takesAnyOf 1 = .ok (.iload_n 1, 1) := by decide +kernel
theorem dX6_takesAnyOf_2 : decode cX6_takesAnyOf 2 = .ok (.invokevirtual 64, 3) := by decide +kernel
theorem dX6_takesAnyOf_5 : decode cX6_takesAnyOf 5 = .ok (.ifCond .ne 5, 3) := by decide +kernel
theorem dX6_takesAnyOf_8 : decode cX6_takesAnyOf 8 = .ok (.iconst 0, 1) := by decide +kernel
theorem dX6_takesAnyOf_9 : decode cX6_takesAnyOf 9 = .ok (.ireturn, 1) := by decide +kernel
theorem dX6_takesAnyOf_10 : decode cX6_takesAnyOf 10 = .ok (.iconst 0, 1) := by decide +kernel
theorem dX6_takesAnyOf_11 : decode cX6_takesAnyOf 11 = .ok (.istore_n 2, 1) := by decide +kernel
theorem dX6_takesAnyOf_12 : decode cX6_takesAnyOf 12 = .ok (.iload_n 2, 1) := by decide +kernel
theorem dX6_takesAnyOf_13 : decode cX6_takesAnyOf 13 = .ok (.bipush 100, 2) := by decide +kernel
theorem dX6_takesAnyOf_15 : decode cX6_takesAnyOf 15 = .ok (.if_icmp .ge 34, 3) := by decide +kernel
theorem dX6_takesAnyOf_18 : decode cX6_takesAnyOf 18 = .ok (.aload_n 0, 1) := by decide +kernel
theorem dX6_takesAnyOf_19 : decode cX6_takesAnyOf 19 = .ok (.bipush 124, 2) := by decide +kernel
theorem dX6_takesAnyOf_21 : decode cX6_takesAnyOf 21 = .ok (.invokevirtual 32, 3) := by decide +kernel
theorem dX6_takesAnyOf_24 : decode cX6_takesAnyOf 24 = .ok (.ifCond .eq 25, 3) := by decide +kernel
theorem dX6_takesAnyOf_27 : decode cX6_takesAnyOf 27 = .ok (.aload_n 0, 1) := by decide +kernel
theorem dX6_takesAnyOf_28 : decode cX6_takesAnyOf 28 = .ok (.iload_n 1, 1) := by decide +kernel
theorem dX6_takesAnyOf_29 : decode cX6_takesAnyOf 29 = .ok (.invokevirtual 64, 3) := by decide +kernel
theorem dX6_takesAnyOf_32 : decode cX6_takesAnyOf 32 = .ok (.ifCond .ne 5, 3) := by decide +kernel
theorem dX6_takesAnyOf_35 : decode cX6_takesAnyOf 35 = .ok (.iconst 0, 1) := by decide +kernel
theorem dX6_takesAnyOf_36 : decode cX6_takesAnyOf 36 = .ok (.ireturn, 1) := by decide +kernel
theorem dX6_takesAnyOf_37 : decode cX6_takesAnyOf 37 = .ok (.aload_n 0, 1) := by decide +kernel
theorem dX6_takesAnyOf_38 : decode cX6_takesAnyOf 38 = .ok (.bipush (-3), 2) := by decide +kernel
theorem dX6_takesAnyOf_40 : decode cX6_takesAnyOf 40 = .ok (.invokevirtual 67, 3) := by decide +kernel
theorem dX6_takesAnyOf_43 : decode cX6_takesAnyOf 43 = .ok (.iinc 2 1, 3) := by decide +kernel
theorem dX6_takesAnyOf_46 : decode cX6_takesAnyOf 46 = .ok (.goto (-34), 3) := by decide +kernel
theorem dX6_takesAnyOf_49 : decode cX6_takesAnyOf 49 = .ok (.iconst 1, 1) := by decide +kernel
theorem dX6_takesAnyOf_50 : decode cX6_takesAnyOf 50 = .ok (.ireturn, 1) := by decide +kernel
theorem dX6_takesAllOf_0 : decode cX6_takesAllOf 0 = .ok (.aload_n 0, 1) := by decide +kernel
theorem dX6_takesAllOf_1 : decode cX6_takesAllOf 1 = .ok (.iload_n 1, 1) := by decide +kernel
theorem dX6_takesAllOf_2 : decode cX6_takesAllOf 2 = .ok (.invokevirtual 71, 3) := by decide +kernel
theorem dX6_takesAllOf_5 : decode cX6_takesAllOf 5 = .ok (.ifCond .ne 5, 3) := by decide +kernel
theorem dX6_takesAllOf_8 : decode cX6_takesAllOf 8 = .ok (.iconst 0, 1) := by decide +kernel
theorem dX6_takesAllOf_9 : decode cX6_takesAllOf 9 = .ok (.ireturn, 1) := by decide +kernel
theorem dX6_takesAllOf_10 : decode cX6_takesAllOf 10 = .ok (.iconst 0, 1) := by decide +kernel
theorem dX6_takesAllOf_11 : decode cX6_takesAllOf 11 = .ok (.istore_n 2, 1) := by decide +kernel
theorem dX6_takesAllOf_12 : decode cX6_takesAllOf 12 = .ok (.iload_n 2, 1) := by decide +kernel
theorem dX6_takesAllOf_13 : decode cX6_takesAllOf 13 = .ok (.bipush 100, 2) := by decide +kernel
theorem dX6_takesAllOf_15 : decode cX6_takesAllOf 15 = .ok (.if_icmp .ge 34, 3) := by decide +kernel
theorem dX6_takesAllOf_18 : decode cX6_takesAllOf 18 = .ok (.aload_n 0, 1) := by decide +kernel
theorem dX6_takesAllOf_19 : decode cX6_takesAllOf 19 = .ok (.bipush 38, 2) := by decide +kernel
theorem dX6_takesAllOf_21 : decode cX6_takesAllOf 21 = .ok (.invokevirtual 32, 3) := by decide +kernel
theorem dX6_takesAllOf_24 : decode cX6_takesAllOf 24 = .ok (.ifCond .eq 25, 3) := by decide +kernel
theorem dX6_takesAllOf_27 : decode cX6_takesAllOf 27 = .ok (.aload_n 0, 1) := by decide +kernel
theorem dX6_takesAllOf_28 : decode cX6_takesAllOf 28 = .ok (.iload_n 1, 1) := by decide +kernel
theorem dX6_takesAllOf_29 : decode cX6_takesAllOf 29 = .ok (.invokevirtual 71, 3) := by decide +kernel
theorem dX6_takesAllOf_32 : decode cX6_takesAllOf 32 = .ok (.ifCond .ne 5, 3) := by decide +kernel
theorem dX6_takesAllOf_35 : decode cX6_takesAllOf 35 = .ok (.iconst 0, 1) := by decide +kernel
theorem dX6_takesAllOf_36 : decode cX6_takesAllOf 36 = .ok (.ireturn, 1) := by decide +kernel
theorem dX6_takesAllOf_37 : decode cX6_takesAllOf 37 = .ok (.aload_n 0, 1) := by decide +kernel
theorem dX6_takesAllOf_38 : decode cX6_takesAllOf 38 = .ok (.bipush (-2), 2) := by decide +kernel
theorem dX6_takesAllOf_40 : decode cX6_takesAllOf 40 = .ok (.invokevirtual 67, 3) := by decide +kernel
theorem dX6_takesAllOf_43 : decode cX6_takesAllOf 43 = .ok (.iinc 2 1, 3) := by decide +kernel
theorem dX6_takesAllOf_46 : decode cX6_takesAllOf 46 = .ok (.goto (-34), 3) := by decide +kernel
theorem dX6_takesAllOf_49 : decode cX6_takesAllOf 49 = .ok (.iconst 1, 1) := by decide +kernel
theorem dX6_takesAllOf_50 : decode cX6_takesAllOf 50 = .ok (.ireturn, 1) := by decide +kernel
theorem dX6_takesFactor_0 : decode cX6_takesFactor 0 = .ok (.iload_n 1, 1) := by decide +kernel
theorem dX6_takesFactor_1 : decode cX6_takesFactor 1 = .ok (.istore_n 2, 1) := by decide +kernel
theorem dX6_takesFactor_2 : decode cX6_takesFactor 2 = .ok (.iload_n 2, 1) := by decide +kernel
theorem dX6_takesFactor_3 : decode cX6_takesFactor 3 = .ok (.iconst 4, 1) := by decide +kernel
theorem dX6_takesFactor_4 : decode cX6_takesFactor 4 = .ok (.if_icmp .ge 18, 3) := by decide +kernel
theorem dX6_takesFactor_7 : decode cX6_takesFactor 7 = .ok (.aload_n 0, 1) := by decide +kernel
theorem dX6_takesFactor_8 : decode cX6_takesFactor 8 = .ok (.bipush 33, 2) := by decide +kernel
theorem dX6_takesFactor_10 : decode cX6_takesFactor 10 = .ok (.invokevirtual 32, 3) := by decide +kernel
theorem dX6_takesFactor_13 : decode cX6_takesFactor 13 = .ok (.ifCond .eq 9, 3) := by decide +kernel
theorem dX6_takesFactor_16 : decode cX6_takesFactor 16 = .ok (.iinc 2 1, 3) := by decide +kernel
theorem dX6_takesFactor_19 : decode cX6_takesFactor 19 = .ok (.goto (-17), 3) := by decide +kernel
theorem dX6_takesFactor_22 : decode cX6_takesFactor 22 = .ok (.iload_n 2, 1) := by decide +kernel
theorem dX6_takesFactor_23 : decode cX6_takesFactor 23 = .ok (.iconst 4, 1) := by decide +kernel
theorem dX6_takesFactor_24 : decode cX6_takesFactor 24 = .ok (.if_icmp .ge 39, 3) := by decide +kernel
theorem dX6_takesFactor_27 : decode cX6_takesFactor 27 = .ok (.aload_n 0, 1) := by decide +kernel
theorem dX6_takesFactor_28 : decode cX6_takesFactor 28 = .ok (.bipush 40, 2) := by decide +kernel
theorem dX6_takesFactor_30 : decode cX6_takesFactor 30 = .ok (.invokevirtual 32, 3) := by decide +kernel
theorem dX6_takesFactor_33 : decode cX6_takesFactor 33 = .ok (.ifCond .eq 30, 3) := by decide +kernel
theorem dX6_takesFactor_36 : decode cX6_takesFactor 36 = .ok (.aload_n 0, 1) := by decide +kernel
theorem dX6_takesFactor_37 : decode cX6_takesFactor 37 = .ok (.iload_n 2, 1) := by decide +kernel
theorem dX6_takesFactor_38 : decode cX6_takesFactor 38 = .ok (.iconst 1, 1) := by decide +kernel
theorem dX6_takesFactor_39 : decode cX6_takesFactor 39 = .ok (.iadd, 1) := by decide +kernel
theorem dX6_takesFactor_40 : decode cX6_takesFactor 40 = .ok (.invokevirtual 46, 3) := by decide +kernel
theorem dX6_takesFactor_43 : decode cX6_takesFactor 43 = .ok (.ifCond .eq 16, 3) := by decide +kernel
theorem dX6_takesFactor_46 : decode cX6_takesFactor 46 = .ok (.aload_n 0, 1) := by decide +kernel
theorem dX6_takesFactor_47 : decode cX6_takesFactor 47 = .ok (.bipush 41, 2) := by decide +kernel
theorem dX6_takesFactor_49 : decode cX6_takesFactor 49 = .ok (.invokevirtual 32, 3) := by decide +kernel
theorem dX6_takesFactor_52 : decode cX6_takesFactor 52 = .ok (.ifCond .eq 7, 3) := by decide +kernel
theorem dX6_takesFactor_55 : decode cX6_takesFactor 55 = .ok (.iconst 1, 1) := by decide +kernel
theorem dX6_takesFactor_56 : decode cX6_takesFactor 56 = .ok (.goto 11, 3) := by decide +kernel
theorem dX6_takesFactor_59 : decode cX6_takesFactor 59 = .ok (.iconst 0, 1) := by decide +kernel
theorem dX6_takesFactor_60 : decode cX6_takesFactor 60 = .ok (.goto 7, 3) := by decide +kernel
theorem dX6_takesFactor_63 : decode cX6_takesFactor 63 = .ok (.aload_n 0, 1) := by decide +kernel
theorem dX6_takesFactor_64 : decode cX6_takesFactor 64 = .ok (.invokevirtual 74, 3) := by decide +kernel
theorem dX6_takesFactor_67 : decode cX6_takesFactor 67 = .ok (.istore_n 3, 1) := by decide +kernel
theorem dX6_takesFactor_68 : decode cX6_takesFactor 68 = .ok (.iload_n 1, 1) := by decide +kernel
theorem dX6_takesFactor_69 : decode cX6_takesFactor 69 = .ok (.istore 4, 2) := by decide +kernel
theorem dX6_takesFactor_71 : decode cX6_takesFactor 71 = .ok (.iload 4, 2) := by decide +kernel
theorem dX6_takesFactor_73 : decode cX6_takesFactor 73 = .ok (.iload_n 2, 1) := by decide +kernel
theorem dX6_takesFactor_74 : decode cX6_takesFactor 74 = .ok (.if_icmp .ge 14, 3) := by decide +kernel
theorem dX6_takesFactor_77 : decode cX6_takesFactor 77 = .ok (.aload_n 0, 1) := by decide +kernel
theorem dX6_takesFactor_78 : decode cX6_takesFactor 78 = .ok (.iconst (-1), 1) := by decide +kernel
theorem dX6_takesFactor_79 : decode cX6_takesFactor 79 = .ok (.invokevirtual 67, 3) := by decide +kernel
theorem dX6_takesFactor_82 : decode cX6_takesFactor 82 = .ok (.iinc 4 1, 3) := by decide +kernel
theorem dX6_takesFactor_85 : decode cX6_takesFactor 85 = .ok (.goto (-14), 3) := by decide +kernel
theorem dX6_takesFactor_88 : decode cX6_takesFactor 88 = .ok (.iload_n 3, 1) := by decide +kernel
theorem dX6_takesFactor_89 : decode cX6_takesFactor 89 = .ok (.ireturn, 1) := by decide +kernel
theorem dX6_takesTest_0 : decode cX6_takesTest 0 = .ok (.aload_n 0, 1) := by decide +kernel
theorem dX6_takesTest_1 : decode cX6_takesTest 1 = .ok (.ldc 78, 2) := by decide +kernel
theorem dX6_takesTest_3 : decode cX6_takesTest 3 = .ok (.invokevirtual 80, 3) := by decide +kernel
theorem dX6_takesTest_6 : decode cX6_takesTest 6 = .ok (.istore_n 1, 1) := by decide +kernel
theorem dX6_takesTest_7 : decode cX6_takesTest 7 = .ok (.iload_n 1, 1) := by decide +kernel
theorem dX6_takesTest_8 : decode cX6_takesTest 8 = .ok (.ifCond .ge 7, 3) := by decide +kernel
theorem dX6_takesTest_11 : decode cX6_takesTest 11 = .ok (.iconst (-1), 1) := by decide +kernel
theorem dX6_takesTest_12 : decode cX6_takesTest 12 = .ok (.goto 9, 3) := by decide +kernel
theorem dX6_takesTest_15 : decode cX6_takesTest 15 = .ok (.aload_n 0, 1) := by decide +kernel
theorem dX6_takesTest_16 : decode cX6_takesTest 16 = .ok (.ldc 84, 2) := by decide +kernel
theorem dX6_takesTest_18 : decode cX6_takesTest 18 = .ok (.invokevirtual 80, 3) := by decide +kernel
theorem dX6_takesTest_21 : decode cX6_takesTest 21 = .ok (.istore_n 2, 1) := by decide +kernel
theorem dX6_takesTest_22 : decode cX6_takesTest 22 = .ok (.iload_n 2, 1) := by decide +kernel
theorem dX6_takesTest_23 : decode cX6_takesTest 23 = .ok (.ifCond .ge 7, 3) := by decide +kernel
theorem dX6_takesTest_26 : decode cX6_takesTest 26 = .ok (.iconst (-1), 1) := by decide +kernel
theorem dX6_takesTest_27 : decode cX6_takesTest 27 = .ok (.goto 7, 3) := by decide +kernel
theorem dX6_takesTest_30 : decode cX6_takesTest 30 = .ok (.aload_n 0, 1) := by decide +kernel
theorem dX6_takesTest_31 : decode cX6_takesTest 31 = .ok (.invokevirtual 40, 3) := by decide +kernel
theorem dX6_takesTest_34 : decode cX6_takesTest 34 = .ok (.istore_n 3, 1) := by decide +kernel
theorem dX6_takesTest_35 : decode cX6_takesTest 35 = .ok (.iload_n 3, 1) := by decide +kernel
theorem dX6_takesTest_36 : decode cX6_takesTest 36 = .ok (.ifCond .ge 5, 3) := by decide +kernel
theorem dX6_takesTest_39 : decode cX6_takesTest 39 = .ok (.iconst 0, 1) := by decide +kernel
theorem dX6_takesTest_40 : decode cX6_takesTest 40 = .ok (.ireturn, 1) := by decide +kernel
theorem dX6_takesTest_41 : decode cX6_takesTest 41 = .ok (.aload_n 0, 1) := by decide +kernel
theorem dX6_takesTest_42 : decode cX6_takesTest 42 = .ok (.iload_n 1, 1) := by decide +kernel
theorem dX6_takesTest_43 : decode cX6_takesTest 43 = .ok (.iload_n 2, 1) := by decide +kernel
theorem dX6_takesTest_44 : decode cX6_takesTest 44 = .ok (.iload_n 3, 1) := by decide +kernel
theorem dX6_takesTest_45 : decode cX6_takesTest 45 = .ok (.invokestatic 86, 3) := by decide +kernel
theorem dX6_takesTest_48 : decode cX6_takesTest 48 = .ok (.invokevirtual 67, 3) := by decide +kernel
theorem dX6_takesTest_51 : decode cX6_takesTest 51 = .ok (.iconst 1, 1) := by decide +kernel
theorem dX6_takesTest_52 : decode cX6_takesTest 52 = .ok (.ireturn, 1) := by decide +kernel
theorem dX6_addCode_0 : decode cX6_addCode 0 = .ok (.aload_n 0, 1) := by decide +kernel
theorem dX6_addCode_1 : decode cX6_addCode 1 = .ok (.getfield 43, 3) := by decide +kernel
theorem dX6_addCode_4 : decode cX6_addCode 4 = .ok (.bipush 100, 2) := by decide +kernel
theorem dX6_addCode_6 : decode cX6_addCode 6 = .ok (.if_icmp .ge 23, 3) := by decide +kernel
theorem dX6_addCode_9 : decode cX6_addCode 9 = .ok (.aload_n 0, 1) := by decide +kernel
theorem dX6_addCode_10 : decode cX6_addCode 10 = .ok (.getfield 19, 3) := by decide +kernel
theorem dX6_addCode_13 : decode cX6_addCode 13 = .ok (.aload_n 0, 1) := by decide +kernel
theorem dX6_addCode_14 : decode cX6_addCode 14 = .ok (.getfield 43, 3) := by decide +kernel
theorem dX6_addCode_17 : decode cX6_addCode 17 = .ok (.iload_n 1, 1) := by decide +kernel
theorem dX6_addCode_18 : decode cX6_addCode 18 = .ok (.iastore, 1) := by decide +kernel
theorem dX6_addCode_19 : decode cX6_addCode 19 = .ok (.aload_n 0, 1) := by decide +kernel
theorem dX6_addCode_20 : decode cX6_addCode 20 = .ok (.dup, 1) := by decide +kernel
theorem dX6_addCode_21 : decode cX6_addCode 21 = .ok (.getfield 43, 3) := by decide +kernel
theorem dX6_addCode_24 : decode cX6_addCode 24 = .ok (.iconst 1, 1) := by decide +kernel
theorem dX6_addCode_25 : decode cX6_addCode 25 = .ok (.iadd, 1) := by decide +kernel
theorem dX6_addCode_26 : decode cX6_addCode 26 = .ok (.putfield 43, 3) := by decide +kernel
theorem dX6_addCode_29 : decode cX6_addCode 29 = .ok (.return_, 1) := by decide +kernel
theorem dX6_takes_0 : decode cX6_takes 0 = .ok (.aload_n 0, 1) := by decide +kernel
theorem dX6_takes_1 : decode cX6_takes 1 = .ok (.getfield 26, 3) := by decide +kernel
theorem dX6_takes_4 : decode cX6_takes 4 = .ok (.aload_n 0, 1) := by decide +kernel
theorem dX6_takes_5 : decode cX6_takes 5 = .ok (.getfield 22, 3) := by decide +kernel
theorem dX6_takes_8 : decode cX6_takes 8 = .ok (.if_icmp .ge 20, 3) := by decide +kernel
theorem dX6_takes_11 : decode cX6_takes 11 = .ok (.aload_n 0, 1) := by decide +kernel
theorem dX6_takes_12 : decode cX6_takes 12 = .ok (.getfield 9, 3) := by decide +kernel
theorem dX6_takes_15 : decode cX6_takes 15 = .ok (.aload_n 0, 1) := by decide +kernel
theorem dX6_takes_16 : decode cX6_takes 16 = .ok (.getfield 26, 3) := by decide +kernel
theorem dX6_takes_19 : decode cX6_takes 19 = .ok (.iaload, 1) := by decide +kernel
theorem dX6_takes_20 : decode cX6_takes 20 = .ok (.iload_n 1, 1) := by decide +kernel
theorem dX6_takes_21 : decode cX6_takes 21 = .ok (.if_icmp .ne 7, 3) := by decide +kernel
theorem dX6_takes_24 : decode cX6_takes 24 = .ok (.iconst 1, 1) := by decide +kernel
theorem dX6_takes_25 : decode cX6_takes 25 = .ok (.goto 4, 3) := by decide +kernel
theorem dX6_takes_28 : decode cX6_takes 28 = .ok (.iconst 0, 1) := by decide +kernel
theorem dX6_takes_29 : decode cX6_takes 29 = .ok (.istore_n 2, 1) := by decide +kernel
theorem dX6_takes_30 : decode cX6_takes 30 = .ok (.aload_n 0, 1) := by decide +kernel
theorem dX6_takes_31 : decode cX6_takes 31 = .ok (.dup, 1) := by decide +kernel
theorem dX6_takes_32 : decode cX6_takes 32 = .ok (.getfield 26, 3) := by decide +kernel
theorem dX6_takes_35 : decode cX6_takes 35 = .ok (.iload_n 2, 1) := by decide +kernel
theorem dX6_takes_36 : decode cX6_takes 36 = .ok (.ifCond .eq 7, 3) := by decide +kernel
theorem dX6_takes_39 : decode cX6_takes 39 = .ok (.iconst 1, 1) := by decide +kernel
theorem dX6_takes_40 : decode cX6_takes 40 = .ok (.goto 4, 3) := by decide +kernel
theorem dX6_takes_43 : decode cX6_takes 43 = .ok (.iconst 0, 1) := by decide +kernel
theorem dX6_takes_44 : decode cX6_takes 44 = .ok (.iadd, 1) := by decide +kernel
theorem dX6_takes_45 : decode cX6_takes 45 = .ok (.putfield 26, 3) := by decide +kernel
theorem dX6_takes_48 : decode cX6_takes 48 = .ok (.iload_n 2, 1) := by decide +kernel
theorem dX6_takes_49 : decode cX6_takes 49 = .ok (.ireturn, 1) := by decide +kernel
theorem dX6_takenOneOf_0 : decode cX6_takenOneOf 0 = .ok (.aload_n 0, 1) := by decide +kernel
theorem dX6_takenOneOf_1 : decode cX6_takenOneOf 1 = .ok (.getfield 26, 3) := by decide +kernel
theorem dX6_takenOneOf_4 : decode cX6_takenOneOf 4 = .ok (.aload_n 0, 1) := by decide +kernel
theorem dX6_takenOneOf_5 : decode cX6_takenOneOf 5 = .ok (.getfield 22, 3) := by decide +kernel
theorem dX6_takenOneOf_8 : decode cX6_takenOneOf 8 = .ok (.if_icmp .ge 20, 3) := by decide +kernel
theorem dX6_takenOneOf_11 : decode cX6_takenOneOf 11 = .ok (.aload_n 1, 1) := by decide +kernel
theorem dX6_takenOneOf_12 : decode cX6_takenOneOf 12 = .ok (.aload_n 0, 1) := by decide +kernel
theorem dX6_takenOneOf_13 : decode cX6_takenOneOf 13 = .ok (.getfield 9, 3) := by decide +kernel
theorem dX6_takenOneOf_16 : decode cX6_takenOneOf 16 = .ok (.aload_n 0, 1) := by decide +kernel
theorem dX6_takenOneOf_17 : decode cX6_takenOneOf 17 = .ok (.getfield 26, 3) := by decide +kernel
theorem dX6_takenOneOf_20 : decode cX6_takenOneOf 20 = .ok (.iaload, 1) := by decide +kernel
theorem dX6_takenOneOf_21 : decode cX6_takenOneOf 21 = .ok (.i2c, 1) := by decide +kernel
theorem dX6_takenOneOf_22 : decode cX6_takenOneOf 22 = .ok (.invokevirtual 90, 3) := by decide +kernel
theorem dX6_takenOneOf_25 : decode cX6_takenOneOf 25 = .ok (.goto 4, 3) := by decide +kernel
theorem dX6_takenOneOf_28 : decode cX6_takenOneOf 28 = .ok (.iconst (-1), 1) := by decide +kernel
theorem dX6_takenOneOf_29 : decode cX6_takenOneOf 29 = .ok (.istore_n 2, 1) := by decide +kernel
theorem dX6_takenOneOf_30 : decode cX6_takenOneOf 30 = .ok (.aload_n 0, 1) := by decide +kernel
theorem dX6_takenOneOf_31 : decode cX6_takenOneOf 31 = .ok (.dup, 1) := by decide +kernel
theorem dX6_takenOneOf_32 : decode cX6_takenOneOf 32 = .ok (.getfield 26, 3) := by decide +kernel
theorem dX6_takenOneOf_35 : decode cX6_takenOneOf 35 = .ok (.iload_n 2, 1) := by decide +kernel
theorem dX6_takenOneOf_36 : decode cX6_takenOneOf 36 = .ok (.ifCond .ge 7, 3) := by decide +kernel
theorem dX6_takenOneOf_39 : decode cX6_takenOneOf 39 = .ok (.iconst 0, 1) := by decide +kernel
theorem dX6_takenOneOf_40 : decode cX6_takenOneOf 40 = .ok (.goto 4, 3) := by decide +kernel
theorem dX6_takenOneOf_43 : decode cX6_takenOneOf 43 = .ok (.iconst 1, 1) := by decide +kernel
theorem dX6_takenOneOf_44 : decode cX6_takenOneOf 44 = .ok (.iadd, 1) := by decide +kernel
theorem dX6_takenOneOf_45 : decode cX6_takenOneOf 45 = .ok (.putfield 26, 3) := by decide +kernel
theorem dX6_takenOneOf_48 : decode cX6_takenOneOf 48 = .ok (.iload_n 2, 1) := by decide +kernel
theorem dX6_takenOneOf_49 : decode cX6_takenOneOf 49 = .ok (.ireturn, 1) := by decide +kernel
theorem dX6_takenNumber_0 : decode cX6_takenNumber 0 = .ok (.iconst (-1), 1) := by decide +kernel
theorem dX6_takenNumber_1 : decode cX6_takenNumber 1 = .ok (.istore_n 1, 1) := by decide +kernel
theorem dX6_takenNumber_2 : decode cX6_takenNumber 2 = .ok (.iconst 0, 1) := by decide +kernel
theorem dX6_takenNumber_3 : decode cX6_takenNumber 3 = .ok (.istore_n 2, 1) := by decide +kernel
theorem dX6_takenNumber_4 : decode cX6_takenNumber 4 = .ok (.iload_n 2, 1) := by decide +kernel
theorem dX6_takenNumber_5 : decode cX6_takenNumber 5 = .ok (.iconst 2, 1) := by decide +kernel
theorem dX6_takenNumber_6 : decode cX6_takenNumber 6 = .ok (.if_icmp .ge 80, 3) := by decide +kernel
theorem dX6_takenNumber_9 : decode cX6_takenNumber 9 = .ok (.aload_n 0, 1) := by decide +kernel
theorem dX6_takenNumber_10 : decode cX6_takenNumber 10 = .ok (.getfield 26, 3) := by decide +kernel
theorem dX6_takenNumber_13 : decode cX6_takenNumber 13 = .ok (.aload_n 0, 1) := by decide +kernel
theorem dX6_takenNumber_14 : decode cX6_takenNumber 14 = .ok (.getfield 22, 3) := by decide +kernel
theorem dX6_takenNumber_17 : decode cX6_takenNumber 17 = .ok (.if_icmp .ge 69, 3) := by decide +kernel
theorem dX6_takenNumber_20 : decode cX6_takenNumber 20 = .ok (.aload_n 0, 1) := by decide +kernel
theorem dX6_takenNumber_21 : decode cX6_takenNumber 21 = .ok (.getfield 9, 3) := by decide +kernel
theorem dX6_takenNumber_24 : decode cX6_takenNumber 24 = .ok (.aload_n 0, 1) := by decide +kernel
theorem dX6_takenNumber_25 : decode cX6_takenNumber 25 = .ok (.getfield 26, 3) := by decide +kernel
theorem dX6_takenNumber_28 : decode cX6_takenNumber 28 = .ok (.iaload, 1) := by decide +kernel
theorem dX6_takenNumber_29 : decode cX6_takenNumber 29 = .ok (.bipush 48, 2) := by decide +kernel
theorem dX6_takenNumber_31 : decode cX6_takenNumber 31 = .ok (.if_icmp .lt 55, 3) := by decide +kernel
theorem dX6_takenNumber_34 : decode cX6_takenNumber 34 = .ok (.aload_n 0, 1) := by decide +kernel
theorem dX6_takenNumber_35 : decode cX6_takenNumber 35 = .ok (.getfield 9, 3) := by decide +kernel
theorem dX6_takenNumber_38 : decode cX6_takenNumber 38 = .ok (.aload_n 0, 1) := by decide +kernel
theorem dX6_takenNumber_39 : decode cX6_takenNumber 39 = .ok (.getfield 26, 3) := by decide +kernel
theorem dX6_takenNumber_42 : decode cX6_takenNumber 42 = .ok (.iaload, 1) := by decide +kernel
theorem dX6_takenNumber_43 : decode cX6_takenNumber 43 = .ok (.bipush 57, 2) := by decide +kernel
theorem dX6_takenNumber_45 : decode cX6_takenNumber 45 = .ok (.if_icmp .gt 41, 3) := by decide +kernel
theorem dX6_takenNumber_48 : decode cX6_takenNumber 48 = .ok (.iconst 0, 1) := by decide +kernel
theorem dX6_takenNumber_49 : decode cX6_takenNumber 49 = .ok (.iload_n 1, 1) := by decide +kernel
theorem dX6_takenNumber_50 : decode cX6_takenNumber 50 = .ok (.invokestatic 96, 3) := by decide +kernel
theorem dX6_takenNumber_53 : decode cX6_takenNumber 53 = .ok (.bipush 10, 2) := by decide +kernel
theorem dX6_takenNumber_55 : decode cX6_takenNumber 55 = .ok (.imul, 1) := by decide +kernel
theorem dX6_takenNumber_56 : decode cX6_takenNumber 56 = .ok (.aload_n 0, 1) := by decide +kernel
theorem dX6_takenNumber_57 : decode cX6_takenNumber 57 = .ok (.getfield 9, 3) := by decide +kernel
theorem dX6_takenNumber_60 : decode cX6_takenNumber 60 = .ok (.aload_n 0, 1) := by decide +kernel
theorem dX6_takenNumber_61 : decode cX6_takenNumber 61 = .ok (.getfield 26, 3) := by decide +kernel
theorem dX6_takenNumber_64 : decode cX6_takenNumber 64 = .ok (.iaload, 1) := by decide +kernel
theorem dX6_takenNumber_65 : decode cX6_takenNumber 65 = .ok (.iadd, 1) := by decide +kernel
theorem dX6_takenNumber_66 : decode cX6_takenNumber 66 = .ok (.bipush 48, 2) := by decide +kernel
theorem dX6_takenNumber_68 : decode cX6_takenNumber 68 = .ok (.isub, 1) := by decide +kernel
theorem dX6_takenNumber_69 : decode cX6_takenNumber 69 = .ok (.istore_n 1, 1) := by decide +kernel
theorem dX6_takenNumber_70 : decode cX6_takenNumber 70 = .ok (.aload_n 0, 1) := by decide +kernel
theorem dX6_takenNumber_71 : decode cX6_takenNumber 71 = .ok (.dup, 1) := by decide +kernel
theorem dX6_takenNumber_72 : decode cX6_takenNumber 72 = .ok (.getfield 26, 3) := by decide +kernel
theorem dX6_takenNumber_75 : decode cX6_takenNumber 75 = .ok (.iconst 1, 1) := by decide +kernel
theorem dX6_takenNumber_76 : decode cX6_takenNumber 76 = .ok (.iadd, 1) := by decide +kernel
theorem dX6_takenNumber_77 : decode cX6_takenNumber 77 = .ok (.putfield 26, 3) := by decide +kernel
theorem dX6_takenNumber_80 : decode cX6_takenNumber 80 = .ok (.iinc 2 1, 3) := by decide +kernel
theorem dX6_takenNumber_83 : decode cX6_takenNumber 83 = .ok (.goto (-79), 3) := by decide +kernel
theorem dX6_takenNumber_86 : decode cX6_takenNumber 86 = .ok (.iload_n 1, 1) := by decide +kernel
theorem dX6_takenNumber_87 : decode cX6_takenNumber 87 = .ok (.ireturn, 1) := by decide +kernel
theorem dX6_takenWord_0 : decode cX6_takenWord 0 = .ok (.iconst 0, 1) := by decide +kernel
theorem dX6_takenWord_1 : decode cX6_takenWord 1 = .ok (.istore_n 1, 1) := by decide +kernel
theorem dX6_takenWord_2 : decode cX6_takenWord 2 = .ok (.iconst 0, 1) := by decide +kernel
theorem dX6_takenWord_3 : decode cX6_takenWord 3 = .ok (.istore_n 2, 1) := by decide +kernel
theorem dX6_takenWord_4 : decode cX6_takenWord 4 = .ok (.iload_n 2, 1) := by decide +kernel
theorem dX6_takenWord_5 : decode cX6_takenWord 5 = .ok (.iconst 4, 1) := by decide +kernel
theorem dX6_takenWord_6 : decode cX6_takenWord 6 = .ok (.if_icmp .ge 50, 3) := by decide +kernel
theorem dX6_takenWord_9 : decode cX6_takenWord 9 = .ok (.iload_n 2, 1) := by decide +kernel
theorem dX6_takenWord_10 : decode cX6_takenWord 10 = .ok (.invokestatic 102, 3) := by decide +kernel
theorem dX6_takenWord_13 : decode cX6_takenWord 13 = .ok (.astore_n 3, 1) := by decide +kernel
theorem dX6_takenWord_14 : decode cX6_takenWord 14 = .ok (.aload_n 0, 1) := by decide +kernel
theorem dX6_takenWord_15 : decode cX6_takenWord 15 = .ok (.aload_n 3, 1) := by decide +kernel
theorem dX6_takenWord_16 : decode cX6_takenWord 16 = .ok (.invokevirtual 106, 3) := by decide +kernel
theorem dX6_takenWord_19 : decode cX6_takenWord 19 = .ok (.istore 4, 2) := by decide +kernel
theorem dX6_takenWord_21 : decode cX6_takenWord 21 = .ok (.iload 4, 2) := by decide +kernel
theorem dX6_takenWord_23 : decode cX6_takenWord 23 = .ok (.aload_n 3, 1) := by decide +kernel
theorem dX6_takenWord_24 : decode cX6_takenWord 24 = .ok (.invokevirtual 109, 3) := by decide +kernel
theorem dX6_takenWord_27 : decode cX6_takenWord 27 = .ok (.if_icmp .ne 16, 3) := by decide +kernel
theorem dX6_takenWord_30 : decode cX6_takenWord 30 = .ok (.aload_n 0, 1) := by decide +kernel
theorem dX6_takenWord_31 : decode cX6_takenWord 31 = .ok (.dup, 1) := by decide +kernel
theorem dX6_takenWord_32 : decode cX6_takenWord 32 = .ok (.getfield 26, 3) := by decide +kernel
theorem dX6_takenWord_35 : decode cX6_takenWord 35 = .ok (.iload 4, 2) := by decide +kernel
theorem dX6_takenWord_37 : decode cX6_takenWord 37 = .ok (.iadd, 1) := by decide +kernel
theorem dX6_takenWord_38 : decode cX6_takenWord 38 = .ok (.putfield 26, 3) := by decide +kernel
theorem dX6_takenWord_41 : decode cX6_takenWord 41 = .ok (.iload_n 2, 1) := by decide +kernel
theorem dX6_takenWord_42 : decode cX6_takenWord 42 = .ok (.ireturn, 1) := by decide +kernel
theorem dX6_takenWord_43 : decode cX6_takenWord 43 = .ok (.iload_n 1, 1) := by decide +kernel
theorem dX6_takenWord_44 : decode cX6_takenWord 44 = .ok (.iload 4, 2) := by decide +kernel
theorem dX6_takenWord_46 : decode cX6_takenWord 46 = .ok (.invokestatic 96, 3) := by decide +kernel
theorem dX6_takenWord_49 : decode cX6_takenWord 49 = .ok (.istore_n 1, 1) := by decide +kernel
theorem dX6_takenWord_50 : decode cX6_takenWord 50 = .ok (.iinc 2 1, 3) := by decide +kernel
theorem dX6_takenWord_53 : decode cX6_takenWord 53 = .ok (.goto (-49), 3) := by decide +kernel
theorem dX6_takenWord_56 : decode cX6_takenWord 56 = .ok (.aload_n 0, 1) := by decide +kernel
theorem dX6_takenWord_57 : decode cX6_takenWord 57 = .ok (.dup, 1) := by decide +kernel
theorem dX6_takenWord_58 : decode cX6_takenWord 58 = .ok (.getfield 26, 3) := by decide +kernel
theorem dX6_takenWord_61 : decode cX6_takenWord 61 = .ok (.iload_n 1, 1) := by decide +kernel
theorem dX6_takenWord_62 : decode cX6_takenWord 62 = .ok (.iadd, 1) := by decide +kernel
theorem dX6_takenWord_63 : decode cX6_takenWord 63 = .ok (.putfield 26, 3) := by decide +kernel
theorem dX6_takenWord_66 : decode cX6_takenWord 66 = .ok (.iconst (-1), 1) := by decide +kernel
theorem dX6_takenWord_67 : decode cX6_takenWord 67 = .ok (.ireturn, 1) := by decide +kernel
theorem dX6_alikeWith_0 : decode cX6_alikeWith 0 = .ok (.iconst 0, 1) := by decide +kernel
theorem dX6_alikeWith_1 : decode cX6_alikeWith 1 = .ok (.istore_n 2, 1) := by decide +kernel
theorem dX6_alikeWith_2 : decode cX6_alikeWith 2 = .ok (.iload_n 2, 1) := by decide +kernel
theorem dX6_alikeWith_3 : decode cX6_alikeWith 3 = .ok (.aload_n 1, 1) := by decide +kernel
theorem dX6_alikeWith_4 : decode cX6_alikeWith 4 = .ok (.invokevirtual 109, 3) := by decide +kernel
theorem dX6_alikeWith_7 : decode cX6_alikeWith 7 = .ok (.if_icmp .ge 41, 3) := by decide +kernel
theorem dX6_alikeWith_10 : decode cX6_alikeWith 10 = .ok (.aload_n 0, 1) := by decide +kernel
theorem dX6_alikeWith_11 : decode cX6_alikeWith 11 = .ok (.getfield 26, 3) := by decide +kernel
theorem dX6_alikeWith_14 : decode cX6_alikeWith 14 = .ok (.iload_n 2, 1) := by decide +kernel
theorem dX6_alikeWith_15 : decode cX6_alikeWith 15 = .ok (.iadd, 1) := by decide +kernel
theorem dX6_alikeWith_16 : decode cX6_alikeWith 16 = .ok (.aload_n 0, 1) := by decide +kernel
theorem dX6_alikeWith_17 : decode cX6_alikeWith 17 = .ok (.getfield 22, 3) := by decide +kernel
theorem dX6_alikeWith_20 : decode cX6_alikeWith 20 = .ok (.if_icmp .ge 28, 3) := by decide +kernel
theorem dX6_alikeWith_23 : decode cX6_alikeWith 23 = .ok (.aload_n 0, 1) := by decide +kernel
theorem dX6_alikeWith_24 : decode cX6_alikeWith 24 = .ok (.getfield 9, 3) := by decide +kernel
theorem dX6_alikeWith_27 : decode cX6_alikeWith 27 = .ok (.aload_n 0, 1) := by decide +kernel
theorem dX6_alikeWith_28 : decode cX6_alikeWith 28 = .ok (.getfield 26, 3) := by decide +kernel
theorem dX6_alikeWith_31 : decode cX6_alikeWith 31 = .ok (.iload_n 2, 1) := by decide +kernel
theorem dX6_alikeWith_32 : decode cX6_alikeWith 32 = .ok (.iadd, 1) := by decide +kernel
theorem dX6_alikeWith_33 : decode cX6_alikeWith 33 = .ok (.iaload, 1) := by decide +kernel
theorem dX6_alikeWith_34 : decode cX6_alikeWith 34 = .ok (.aload_n 1, 1) := by decide +kernel
theorem dX6_alikeWith_35 : decode cX6_alikeWith 35 = .ok (.iload_n 2, 1) := by decide +kernel
theorem dX6_alikeWith_36 : decode cX6_alikeWith 36 = .ok (.invokevirtual 111, 3) := by decide +kernel
theorem dX6_alikeWith_39 : decode cX6_alikeWith 39 = .ok (.if_icmp .ne 9, 3) := by decide +kernel
theorem dX6_alikeWith_42 : decode cX6_alikeWith 42 = .ok (.iinc 2 1, 3) := by decide +kernel
theorem dX6_alikeWith_45 : decode cX6_alikeWith 45 = .ok (.goto (-43), 3) := by decide +kernel
theorem dX6_alikeWith_48 : decode cX6_alikeWith 48 = .ok (.iload_n 2, 1) := by decide +kernel
theorem dX6_alikeWith_49 : decode cX6_alikeWith 49 = .ok (.ireturn, 1) := by decide +kernel
theorem dX6_wordOf_0 : decode cX6_wordOf 0 = .ok (.iload_n 0, 1) := by decide +kernel
theorem dX6_wordOf_1 : decode cX6_wordOf 1 = .ok (.tableswitch 36 0 2 #[27, 30, 33], 27) := by decide +kernel
theorem dX6_wordOf_28 : decode cX6_wordOf 28 = .ok (.ldc 115, 2) := by decide +kernel
theorem dX6_wordOf_30 : decode cX6_wordOf 30 = .ok (.areturn, 1) := by decide +kernel
theorem dX6_wordOf_31 : decode cX6_wordOf 31 = .ok (.ldc 117, 2) := by decide +kernel
theorem dX6_wordOf_33 : decode cX6_wordOf 33 = .ok (.areturn, 1) := by decide +kernel
theorem dX6_wordOf_34 : decode cX6_wordOf 34 = .ok (.ldc 119, 2) := by decide +kernel
theorem dX6_wordOf_36 : decode cX6_wordOf 36 = .ok (.areturn, 1) := by decide +kernel
theorem dX6_wordOf_37 : decode cX6_wordOf 37 = .ok (.ldc 121, 2) := by decide +kernel
theorem dX6_wordOf_39 : decode cX6_wordOf 39 = .ok (.areturn, 1) := by decide +kernel
theorem dX7_init_0 : decode cX7_init 0 = .ok (.aload_n 0, 1) := by decide +kernel
theorem dX7_init_1 : decode cX7_init 1 = .ok (.invokespecial 1, 3) := by decide +kernel
theorem dX7_init_4 : decode cX7_init 4 = .ok (.aload_n 0, 1) := by decide +kernel
theorem dX7_init_5 : decode cX7_init 5 = .ok (.iconst (-1), 1) := by decide +kernel
theorem dX7_init_6 : decode cX7_init 6 = .ok (.putfield 9, 3) := by decide +kernel
theorem dX7_init_9 : decode cX7_init 9 = .ok (.aload_n 0, 1) := by decide +kernel
theorem dX7_init_10 : decode cX7_init 10 = .ok (.bipush 60, 2) := by decide +kernel
theorem dX7_init_12 : decode cX7_init 12 = .ok (.newarray .long, 2) := by decide +kernel
theorem dX7_init_14 : decode cX7_init 14 = .ok (.putfield 13, 3) := by decide +kernel
theorem dX7_init_17 : decode cX7_init 17 = .ok (.return_, 1) := by decide +kernel
theorem dX7_becomeRow_0 : decode cX7_becomeRow 0 = .ok (.aload_n 0, 1) := by decide +kernel
theorem dX7_becomeRow_1 : decode cX7_becomeRow 1 = .ok (.iload_n 1, 1) := by decide +kernel
theorem dX7_becomeRow_2 : decode cX7_becomeRow 2 = .ok (.putfield 9, 3) := by decide +kernel
theorem dX7_becomeRow_5 : decode cX7_becomeRow 5 = .ok (.aload_n 0, 1) := by decide +kernel
theorem dX7_becomeRow_6 : decode cX7_becomeRow 6 = .ok (.iload_n 2, 1) := by decide +kernel
theorem dX7_becomeRow_7 : decode cX7_becomeRow 7 = .ok (.putfield 17, 3) := by decide +kernel
theorem dX7_becomeRow_10 : decode cX7_becomeRow 10 = .ok (.aload_n 0, 1) := by decide +kernel
theorem dX7_becomeRow_11 : decode cX7_becomeRow 11 = .ok (.getfield 13, 3) := by decide +kernel
theorem dX7_becomeRow_14 : decode cX7_becomeRow 14 = .ok (.lconst 0, 1) := by decide +kernel
theorem dX7_becomeRow_15 : decode cX7_becomeRow 15 = .ok (.invokestatic 20, 3) := by decide +kernel
theorem dX7_becomeRow_18 : decode cX7_becomeRow 18 = .ok (.return_, 1) := by decide +kernel
theorem dX7_hasPlace_0 : decode cX7_hasPlace 0 = .ok (.iload_n 1, 1) := by decide +kernel
theorem dX7_hasPlace_1 : decode cX7_hasPlace 1 = .ok (.iconst 0, 1) := by decide +kernel
theorem dX7_hasPlace_2 : decode cX7_hasPlace 2 = .ok (.aload_n 0, 1) := by decide +kernel
theorem dX7_hasPlace_3 : decode cX7_hasPlace 3 = .ok (.getfield 17, 3) := by decide +kernel
theorem dX7_hasPlace_6 : decode cX7_hasPlace 6 = .ok (.iconst 1, 1) := by decide +kernel
theorem dX7_hasPlace_7 : decode cX7_hasPlace 7 = .ok (.isub, 1) := by decide +kernel
theorem dX7_hasPlace_8 : decode cX7_hasPlace 8 = .ok (.invokestatic 26, 3) := by decide +kernel
theorem dX7_hasPlace_11 : decode cX7_hasPlace 11 = .ok (.ireturn, 1) := by decide +kernel
theorem dX7_hasPlaces_0 : decode cX7_hasPlaces 0 = .ok (.iload_n 1, 1) := by decide +kernel
theorem dX7_hasPlaces_1 : decode cX7_hasPlaces 1 = .ok (.ifCond .lt 25, 3) := by decide +kernel
theorem dX7_hasPlaces_4 : decode cX7_hasPlaces 4 = .ok (.iload_n 2, 1) := by decide +kernel
theorem dX7_hasPlaces_5 : decode cX7_hasPlaces 5 = .ok (.ifCond .lt 21, 3) := by decide +kernel
theorem dX7_hasPlaces_8 : decode cX7_hasPlaces 8 = .ok (.iload_n 1, 1) := by decide +kernel
theorem dX7_hasPlaces_9 : decode cX7_hasPlaces 9 = .ok (.i2l, 1) := by decide +kernel
theorem dX7_hasPlaces_10 : decode cX7_hasPlaces 10 = .ok (.iload_n 2, 1) := by decide +kernel
theorem dX7_hasPlaces_11 : decode cX7_hasPlaces 11 = .ok (.i2l, 1) := by decide +kernel
theorem dX7_hasPlaces_12 : decode cX7_hasPlaces 12 = .ok (.ladd, 1) := by decide +kernel
theorem dX7_hasPlaces_13 : decode cX7_hasPlaces 13 = .ok (.aload_n 0, 1) := by decide +kernel
theorem dX7_hasPlaces_14 : decode cX7_hasPlaces 14 = .ok (.getfield 17, 3) := by decide +kernel
theorem dX7_hasPlaces_17 : decode cX7_hasPlaces 17 = .ok (.i2l, 1) := by decide +kernel
theorem dX7_hasPlaces_18 : decode cX7_hasPlaces 18 = .ok (.lcmp, 1) := by decide +kernel
theorem dX7_hasPlaces_19 : decode cX7_hasPlaces 19 = .ok (.ifCond .gt 7, 3) := by decide +kernel
theorem dX7_hasPlaces_22 : decode cX7_hasPlaces 22 = .ok (.iconst 1, 1) := by decide +kernel
theorem dX7_hasPlaces_23 : decode cX7_hasPlaces 23 = .ok (.goto 4, 3) := by decide +kernel
theorem dX7_hasPlaces_26 : decode cX7_hasPlaces 26 = .ok (.iconst 0, 1) := by decide +kernel
theorem dX7_hasPlaces_27 : decode cX7_hasPlaces 27 = .ok (.ireturn, 1) := by decide +kernel
theorem dX7_narrowed_0 : decode cX7_narrowed 0 = .ok (.aload_n 0, 1) := by decide +kernel
theorem dX7_narrowed_1 : decode cX7_narrowed 1 = .ok (.getfield 9, 3) := by decide +kernel
theorem dX7_narrowed_4 : decode cX7_narrowed 4 = .ok (.tableswitch 62 0 4 #[36, 41, 46, 62, 50], 36) := by decide +kernel
theorem dX7_narrowed_40 : decode cX7_narrowed 40 = .ok (.lload_n 1, 1) := by decide +kernel
theorem dX7_narrowed_41 : decode cX7_narrowed 41 = .ok (.l2i, 1) := by decide +kernel
theorem dX7_narrowed_42 : decode cX7_narrowed 42 = .ok (.i2b, 1) := by decide +kernel
theorem dX7_narrowed_43 : decode cX7_narrowed 43 = .ok (.i2l, 1) := by decide +kernel
theorem dX7_narrowed_44 : decode cX7_narrowed 44 = .ok (.lreturn, 1) := by decide +kernel
theorem dX7_narrowed_45 : decode cX7_narrowed 45 = .ok (.lload_n 1, 1) := by decide +kernel
theorem dX7_narrowed_46 : decode cX7_narrowed 46 = .ok (.l2i, 1) := by decide +kernel
theorem dX7_narrowed_47 : decode cX7_narrowed 47 = .ok (.i2s, 1) := by decide +kernel
theorem dX7_narrowed_48 : decode cX7_narrowed 48 = .ok (.i2l, 1) := by decide +kernel
theorem dX7_narrowed_49 : decode cX7_narrowed 49 = .ok (.lreturn, 1) := by decide +kernel
theorem dX7_narrowed_50 : decode cX7_narrowed 50 = .ok (.lload_n 1, 1) := by decide +kernel
theorem dX7_narrowed_51 : decode cX7_narrowed 51 = .ok (.l2i, 1) := by decide +kernel
theorem dX7_narrowed_52 : decode cX7_narrowed 52 = .ok (.i2l, 1) := by decide +kernel
theorem dX7_narrowed_53 : decode cX7_narrowed 53 = .ok (.lreturn, 1) := by decide +kernel
theorem dX7_narrowed_54 : decode cX7_narrowed 54 = .ok (.lload_n 1, 1) := by decide +kernel
theorem dX7_narrowed_55 : decode cX7_narrowed 55 = .ok (.lconst 0, 1) := by decide +kernel
theorem dX7_narrowed_56 : decode cX7_narrowed 56 = .ok (.lcmp, 1) := by decide +kernel
theorem dX7_narrowed_57 : decode cX7_narrowed 57 = .ok (.ifCond .eq 7, 3) := by decide +kernel
theorem dX7_narrowed_60 : decode cX7_narrowed 60 = .ok (.lconst 1, 1) := by decide +kernel
theorem dX7_narrowed_61 : decode cX7_narrowed 61 = .ok (.goto 4, 3) := by decide +kernel
theorem dX7_narrowed_64 : decode cX7_narrowed 64 = .ok (.lconst 0, 1) := by decide +kernel
theorem dX7_narrowed_65 : decode cX7_narrowed 65 = .ok (.lreturn, 1) := by decide +kernel
theorem dX7_narrowed_66 : decode cX7_narrowed 66 = .ok (.lload_n 1, 1) := by decide +kernel
theorem dX7_narrowed_67 : decode cX7_narrowed 67 = .ok (.lreturn, 1) := by decide +kernel
theorem dX8_init_0 : decode cX8_init 0 = .ok (.aload_n 0, 1) := by decide +kernel
theorem dX8_init_1 : decode cX8_init 1 = .ok (.invokespecial 3, 3) := by decide +kernel
theorem dX8_init_4 : decode cX8_init 4 = .ok (.aload_n 0, 1) := by decide +kernel
theorem dX8_init_5 : decode cX8_init 5 = .ok (.new 9, 3) := by decide +kernel
theorem dX8_init_8 : decode cX8_init 8 = .ok (.dup, 1) := by decide +kernel
theorem dX8_init_9 : decode cX8_init 9 = .ok (.invokespecial 11, 3) := by decide +kernel
theorem dX8_init_12 : decode cX8_init 12 = .ok (.putfield 12, 3) := by decide +kernel
theorem dX8_init_15 : decode cX8_init 15 = .ok (.aload_n 0, 1) := by decide +kernel
theorem dX8_init_16 : decode cX8_init 16 = .ok (.new 9, 3) := by decide +kernel
theorem dX8_init_19 : decode cX8_init 19 = .ok (.dup, 1) := by decide +kernel
theorem dX8_init_20 : decode cX8_init 20 = .ok (.invokespecial 11, 3) := by decide +kernel
theorem dX8_init_23 : decode cX8_init 23 = .ok (.putfield 18, 3) := by decide +kernel
theorem dX8_init_26 : decode cX8_init 26 = .ok (.aload_n 0, 1) := by decide +kernel
theorem dX8_init_27 : decode cX8_init 27 = .ok (.new 21, 3) := by decide +kernel
theorem dX8_init_30 : decode cX8_init 30 = .ok (.dup, 1) := by decide +kernel
theorem dX8_init_31 : decode cX8_init 31 = .ok (.invokespecial 23, 3) := by decide +kernel
theorem dX8_init_34 : decode cX8_init 34 = .ok (.putfield 24, 3) := by decide +kernel
theorem dX8_init_37 : decode cX8_init 37 = .ok (.aload_n 0, 1) := by decide +kernel
theorem dX8_init_38 : decode cX8_init 38 = .ok (.new 28, 3) := by decide +kernel
theorem dX8_init_41 : decode cX8_init 41 = .ok (.dup, 1) := by decide +kernel
theorem dX8_init_42 : decode cX8_init 42 = .ok (.iconst 0, 1) := by decide +kernel
theorem dX8_init_43 : decode cX8_init 43 = .ok (.anewarray 30, 3) := by decide +kernel
theorem dX8_init_46 : decode cX8_init 46 = .ok (.invokespecial 32, 3) := by decide +kernel
theorem dX8_init_49 : decode cX8_init 49 = .ok (.putfield 35, 3) := by decide +kernel
theorem dX8_init_52 : decode cX8_init 52 = .ok (.aload_n 0, 1) := by decide +kernel
theorem dX8_init_53 : decode cX8_init 53 = .ok (.bipush 6, 2) := by decide +kernel
theorem dX8_init_55 : decode cX8_init 55 = .ok (.anewarray 28, 3) := by decide +kernel
theorem dX8_init_58 : decode cX8_init 58 = .ok (.putfield 39, 3) := by decide +kernel
theorem dX8_init_61 : decode cX8_init 61 = .ok (.aload_n 0, 1) := by decide +kernel
theorem dX8_init_62 : decode cX8_init 62 = .ok (.new 43, 3) := by decide +kernel
theorem dX8_init_65 : decode cX8_init 65 = .ok (.dup, 1) := by decide +kernel
theorem dX8_init_66 : decode cX8_init 66 = .ok (.invokespecial 45, 3) := by decide +kernel
theorem dX8_init_69 : decode cX8_init 69 = .ok (.putfield 46, 3) := by decide +kernel
theorem dX8_init_72 : decode cX8_init 72 = .ok (.aload_n 0, 1) := by decide +kernel
theorem dX8_init_73 : decode cX8_init 73 = .ok (.new 43, 3) := by decide +kernel
theorem dX8_init_76 : decode cX8_init 76 = .ok (.dup, 1) := by decide +kernel
theorem dX8_init_77 : decode cX8_init 77 = .ok (.invokespecial 45, 3) := by decide +kernel
theorem dX8_init_80 : decode cX8_init 80 = .ok (.putfield 50, 3) := by decide +kernel
theorem dX8_init_83 : decode cX8_init 83 = .ok (.aload_n 0, 1) := by decide +kernel
theorem dX8_init_84 : decode cX8_init 84 = .ok (.new 53, 3) := by decide +kernel
theorem dX8_init_87 : decode cX8_init 87 = .ok (.dup, 1) := by decide +kernel
theorem dX8_init_88 : decode cX8_init 88 = .ok (.invokespecial 55, 3) := by decide +kernel
theorem dX8_init_91 : decode cX8_init 91 = .ok (.putfield 56, 3) := by decide +kernel
theorem dX8_init_94 : decode cX8_init 94 = .ok (.aload_n 0, 1) := by decide +kernel
theorem dX8_init_95 : decode cX8_init 95 = .ok (.bipush 6, 2) := by decide +kernel
theorem dX8_init_97 : decode cX8_init 97 = .ok (.anewarray 60, 3) := by decide +kernel
theorem dX8_init_100 : decode cX8_init 100 = .ok (.putfield 62, 3) := by decide +kernel
theorem dX8_init_103 : decode cX8_init 103 = .ok (.iconst 0, 1) := by decide +kernel
theorem dX8_init_104 : decode cX8_init 104 = .ok (.istore_n 1, 1) := by decide +kernel
theorem dX8_init_105 : decode cX8_init 105 = .ok (.iload_n 1, 1) := by decide +kernel
theorem dX8_init_106 : decode cX8_init 106 = .ok (.bipush 6, 2) := by decide +kernel
theorem dX8_init_108 : decode cX8_init 108 = .ok (.if_icmp .ge 22, 3) := by decide +kernel
theorem dX8_init_111 : decode cX8_init 111 = .ok (.aload_n 0, 1) := by decide +kernel
theorem dX8_init_112 : decode cX8_init 112 = .ok (.getfield 62, 3) := by decide +kernel
theorem dX8_init_115 : decode cX8_init 115 = .ok (.iload_n 1, 1) := by decide +kernel
theorem dX8_init_116 : decode cX8_init 116 = .ok (.new 60, 3) := by decide +kernel
theorem dX8_init_119 : decode cX8_init 119 = .ok (.dup, 1) := by decide +kernel
theorem dX8_init_120 : decode cX8_init 120 = .ok (.invokespecial 66, 3) := by decide +kernel
theorem dX8_init_123 : decode cX8_init 123 = .ok (.aastore, 1) := by decide +kernel
theorem dX8_init_124 : decode cX8_init 124 = .ok (.iinc 1 1, 3) := by decide +kernel
theorem dX8_init_127 : decode cX8_init 127 = .ok (.goto (-22), 3) := by decide +kernel
theorem dX8_init_130 : decode cX8_init 130 = .ok (.return_, 1) := by decide +kernel
theorem dX8_air_0 : decode cX8_air 0 = .ok (.iload_n 1, 1) := by decide +kernel
theorem dX8_air_1 : decode cX8_air 1 = .ok (.iconst 0, 1) := by decide +kernel
theorem dX8_air_2 : decode cX8_air 2 = .ok (.bipush 11, 2) := by decide +kernel
theorem dX8_air_4 : decode cX8_air 4 = .ok (.invokestatic 67, 3) := by decide +kernel
theorem dX8_air_7 : decode cX8_air 7 = .ok (.ifCond .ne 5, 3) := by decide +kernel
theorem dX8_air_10 : decode cX8_air 10 = .ok (.iconst (-1), 1) := by decide +kernel
theorem dX8_air_11 : decode cX8_air 11 = .ok (.ireturn, 1) := by decide +kernel
theorem dX8_air_12 : decode cX8_air 12 = .ok (.iload_n 2, 1) := by decide +kernel
theorem dX8_air_13 : decode cX8_air 13 = .ok (.iconst 0, 1) := by decide +kernel
theorem dX8_air_14 : decode cX8_air 14 = .ok (.bipush 99, 2) := by decide +kernel
theorem dX8_air_16 : decode cX8_air 16 = .ok (.invokestatic 67, 3) := by decide +kernel
theorem dX8_air_19 : decode cX8_air 19 = .ok (.ifCond .ne 6, 3) := by decide +kernel
theorem dX8_air_22 : decode cX8_air 22 = .ok (.bipush (-2), 2) := by decide +kernel
theorem dX8_air_24 : decode cX8_air 24 = .ok (.ireturn, 1) := by decide +kernel
theorem dX8_air_25 : decode cX8_air 25 = .ok (.aload_n 0, 1) := by decide +kernel
theorem dX8_air_26 : decode cX8_air 26 = .ok (.getfield 12, 3) := by decide +kernel
theorem dX8_air_29 : decode cX8_air 29 = .ok (.getfield 71, 3) := by decide +kernel
theorem dX8_air_32 : decode cX8_air 32 = .ok (.iload_n 1, 1) := by decide +kernel
theorem dX8_air_33 : decode cX8_air 33 = .ok (.iaload, 1) := by decide +kernel
theorem dX8_air_34 : decode cX8_air 34 = .ok (.istore_n 3, 1) := by decide +kernel
theorem dX8_air_35 : decode cX8_air 35 = .ok (.aload_n 0, 1) := by decide +kernel
theorem dX8_air_36 : decode cX8_air 36 = .ok (.getfield 12, 3) := by decide +kernel
theorem dX8_air_39 : decode cX8_air 39 = .ok (.getfield 71, 3) := by decide +kernel
theorem dX8_air_42 : decode cX8_air 42 = .ok (.iload_n 1, 1) := by decide +kernel
theorem dX8_air_43 : decode cX8_air 43 = .ok (.iload_n 2, 1) := by decide +kernel
theorem dX8_air_44 : decode cX8_air 44 = .ok (.iastore, 1) := by decide +kernel
theorem dX8_air_45 : decode cX8_air 45 = .ok (.iload_n 3, 1) := by decide +kernel
theorem dX8_air_46 : decode cX8_air 46 = .ok (.ireturn, 1) := by decide +kernel
theorem dX8_lean_0 : decode cX8_lean 0 = .ok (.iload_n 1, 1) := by decide +kernel
theorem dX8_lean_1 : decode cX8_lean 1 = .ok (.iconst 0, 1) := by decide +kernel
theorem dX8_lean_2 : decode cX8_lean 2 = .ok (.bipush 20, 2) := by decide +kernel
theorem dX8_lean_4 : decode cX8_lean 4 = .ok (.invokestatic 67, 3) := by decide +kernel
theorem dX8_lean_7 : decode cX8_lean 7 = .ok (.ifCond .ne 6, 3) := by decide +kernel
theorem dX8_lean_10 : decode cX8_lean 10 = .ok (.bipush (-2), 2) := by decide +kernel
theorem dX8_lean_12 : decode cX8_lean 12 = .ok (.ireturn, 1) := by decide +kernel
theorem dX8_lean_13 : decode cX8_lean 13 = .ok (.aload_n 0, 1) := by decide +kernel
theorem dX8_lean_14 : decode cX8_lean 14 = .ok (.getfield 12, 3) := by decide +kernel
theorem dX8_lean_17 : decode cX8_lean 17 = .ok (.getfield 75, 3) := by decide +kernel
theorem dX8_lean_20 : decode cX8_lean 20 = .ok (.istore_n 2, 1) := by decide +kernel
theorem dX8_lean_21 : decode cX8_lean 21 = .ok (.aload_n 0, 1) := by decide +kernel
theorem dX8_lean_22 : decode cX8_lean 22 = .ok (.getfield 12, 3) := by decide +kernel
theorem dX8_lean_25 : decode cX8_lean 25 = .ok (.iload_n 1, 1) := by decide +kernel
theorem dX8_lean_26 : decode cX8_lean 26 = .ok (.putfield 75, 3) := by decide +kernel
theorem dX8_lean_29 : decode cX8_lean 29 = .ok (.iload_n 2, 1) := by decide +kernel
theorem dX8_lean_30 : decode cX8_lean 30 = .ok (.ireturn, 1) := by decide +kernel
theorem dX8_door_0 : decode cX8_door 0 = .ok (.iload_n 1, 1) := by decide +kernel
theorem dX8_door_1 : decode cX8_door 1 = .ok (.iconst 0, 1) := by decide +kernel
theorem dX8_door_2 : decode cX8_door 2 = .ok (.bipush 6, 2) := by decide +kernel
theorem dX8_door_4 : decode cX8_door 4 = .ok (.invokestatic 67, 3) := by decide +kernel
theorem dX8_door_7 : decode cX8_door 7 = .ok (.ifCond .ne 5, 3) := by decide +kernel
theorem dX8_door_10 : decode cX8_door 10 = .ok (.iconst (-1), 1) := by decide +kernel
theorem dX8_door_11 : decode cX8_door 11 = .ok (.ireturn, 1) := by decide +kernel
theorem dX8_door_12 : decode cX8_door 12 = .ok (.iload_n 2, 1) := by decide +kernel
theorem dX8_door_13 : decode cX8_door 13 = .ok (.iconst 0, 1) := by decide +kernel
theorem dX8_door_14 : decode cX8_door 14 = .ok (.bipush 9, 2) := by decide +kernel
theorem dX8_door_16 : decode cX8_door 16 = .ok (.invokestatic 67, 3) := by decide +kernel
theorem dX8_door_19 : decode cX8_door 19 = .ok (.ifCond .ne 6, 3) := by decide +kernel
theorem dX8_door_22 : decode cX8_door 22 = .ok (.bipush (-2), 2) := by decide +kernel
theorem dX8_door_24 : decode cX8_door 24 = .ok (.ireturn, 1) := by decide +kernel
theorem dX8_door_25 : decode cX8_door 25 = .ok (.aload_n 0, 1) := by decide +kernel
theorem dX8_door_26 : decode cX8_door 26 = .ok (.getfield 12, 3) := by decide +kernel
theorem dX8_door_29 : decode cX8_door 29 = .ok (.getfield 79, 3) := by decide +kernel
theorem dX8_door_32 : decode cX8_door 32 = .ok (.iconst 4, 1) := by decide +kernel
theorem dX8_door_33 : decode cX8_door 33 = .ok (.if_icmp .lt 6, 3) := by decide +kernel
theorem dX8_door_36 : decode cX8_door 36 = .ok (.bipush (-4), 2) := by decide +kernel
theorem dX8_door_38 : decode cX8_door 38 = .ok (.ireturn, 1) := by decide +kernel
theorem dX8_door_39 : decode cX8_door 39 = .ok (.aload_n 0, 1) := by decide +kernel
theorem dX8_door_40 : decode cX8_door 40 = .ok (.getfield 12, 3) := by decide +kernel
theorem dX8_door_43 : decode cX8_door 43 = .ok (.getfield 79, 3) := by decide +kernel
theorem dX8_door_46 : decode cX8_door 46 = .ok (.istore_n 3, 1) := by decide +kernel
theorem dX8_door_47 : decode cX8_door 47 = .ok (.aload_n 0, 1) := by decide +kernel
theorem dX8_door_48 : decode cX8_door 48 = .ok (.getfield 12, 3) := by decide +kernel
theorem dX8_door_51 : decode cX8_door 51 = .ok (.getfield 82, 3) := by decide +kernel
theorem dX8_door_54 : decode cX8_door 54 = .ok (.iload_n 3, 1) := by decide +kernel
theorem dX8_door_55 : decode cX8_door 55 = .ok (.aaload, 1) := by decide +kernel
theorem dX8_door_56 : decode cX8_door 56 = .ok (.iload_n 3, 1) := by decide +kernel
theorem dX8_door_57 : decode cX8_door 57 = .ok (.iload_n 1, 1) := by decide +kernel
theorem dX8_door_58 : decode cX8_door 58 = .ok (.iload_n 2, 1) := by decide +kernel
theorem dX8_door_59 : decode cX8_door 59 = .ok (.invokevirtual 86, 3) := by decide +kernel
theorem dX8_door_62 : decode cX8_door 62 = .ok (.aload_n 0, 1) := by decide +kernel
theorem dX8_door_63 : decode cX8_door 63 = .ok (.getfield 12, 3) := by decide +kernel
theorem dX8_door_66 : decode cX8_door 66 = .ok (.dup, 1) := by decide +kernel
theorem dX8_door_67 : decode cX8_door 67 = .ok (.getfield 79, 3) := by decide +kernel
theorem dX8_door_70 : decode cX8_door 70 = .ok (.iconst 1, 1) := by decide +kernel
theorem dX8_door_71 : decode cX8_door 71 = .ok (.iadd, 1) := by decide +kernel
theorem dX8_door_72 : decode cX8_door 72 = .ok (.putfield 79, 3) := by decide +kernel
theorem dX8_door_75 : decode cX8_door 75 = .ok (.iload_n 3, 1) := by decide +kernel
theorem dX8_door_76 : decode cX8_door 76 = .ok (.ireturn, 1) := by decide +kernel
theorem dX8_of_0 : decode cX8_of 0 = .ok (.aload_n 0, 1) := by decide +kernel
theorem dX8_of_1 : decode cX8_of 1 = .ok (.iload_n 1, 1) := by decide +kernel
theorem dX8_of_2 : decode cX8_of 2 = .ok (.invokevirtual 92, 3) := by decide +kernel
theorem dX8_of_5 : decode cX8_of 5 = .ok (.astore_n 3, 1) := by decide +kernel
theorem dX8_of_6 : decode cX8_of 6 = .ok (.aload_n 3, 1) := by decide +kernel
theorem dX8_of_7 : decode cX8_of 7 = .ok (.ifnonnull 7, 3) := by decide +kernel
theorem dX8_of_10 : decode cX8_of 10 = .ok (.sipush (-10001), 3) := by decide +kernel
theorem dX8_of_13 : decode cX8_of 13 = .ok (.ireturn, 1) := by decide +kernel
theorem dX8_of_14 : decode cX8_of 14 = .ok (.iload_n 2, 1) := by decide +kernel
theorem dX8_of_15 : decode cX8_of 15 = .ok (.bipush 20, 2) := by decide +kernel
theorem dX8_of_17 : decode cX8_of 17 = .ok (.bipush 25, 2) := by decide +kernel
theorem dX8_of_19 : decode cX8_of 19 = .ok (.invokestatic 67, 3) := by decide +kernel
theorem dX8_of_22 : decode cX8_of 22 = .ok (.ifCond .eq 13, 3) := by decide +kernel
theorem dX8_of_25 : decode cX8_of 25 = .ok (.aload_n 3, 1) := by decide +kernel
theorem dX8_of_26 : decode cX8_of 26 = .ok (.getfield 96, 3) := by decide +kernel
theorem dX8_of_29 : decode cX8_of 29 = .ok (.iload_n 2, 1) := by decide +kernel
theorem dX8_of_30 : decode cX8_of 30 = .ok (.bipush 20, 2) := by decide +kernel
theorem dX8_of_32 : decode cX8_of 32 = .ok (.isub, 1) := by decide +kernel
theorem dX8_of_33 : decode cX8_of 33 = .ok (.iaload, 1) := by decide +kernel
theorem dX8_of_34 : decode cX8_of 34 = .ok (.ireturn, 1) := by decide +kernel
theorem dX8_of_35 : decode cX8_of 35 = .ok (.iload_n 2, 1) := by decide +kernel
theorem dX8_of_36 : decode cX8_of 36 = .ok (.bipush 30, 2) := by decide +kernel
theorem dX8_of_38 : decode cX8_of 38 = .ok (.bipush 35, 2) := by decide +kernel
theorem dX8_of_40 : decode cX8_of 40 = .ok (.invokestatic 67, 3) := by decide +kernel
theorem dX8_of_43 : decode cX8_of 43 = .ok (.ifCond .eq 16, 3) := by decide +kernel
theorem dX8_of_46 : decode cX8_of 46 = .ok (.aload_n 0, 1) := by decide +kernel
theorem dX8_of_47 : decode cX8_of 47 = .ok (.aload_n 3, 1) := by decide +kernel
theorem dX8_of_48 : decode cX8_of 48 = .ok (.invokevirtual 99, 3) := by decide +kernel
theorem dX8_of_51 : decode cX8_of 51 = .ok (.iload_n 2, 1) := by decide +kernel
theorem dX8_of_52 : decode cX8_of 52 = .ok (.bipush 30, 2) := by decide +kernel
theorem dX8_of_54 : decode cX8_of 54 = .ok (.isub, 1) := by decide +kernel
theorem dX8_of_55 : decode cX8_of 55 = .ok (.invokevirtual 103, 3) := by decide +kernel
theorem dX8_of_58 : decode cX8_of 58 = .ok (.ireturn, 1) := by decide +kernel
theorem dX8_of_59 : decode cX8_of 59 = .ok (.iload_n 2, 1) := by decide +kernel
theorem dX8_of_60 : decode cX8_of 60 = .ok (.tableswitch 159 0 11 #[64, 69, 74, 81, 88, 104, 109, 114, 123, 132, 141, 150], 64) := by decide +kernel
theorem dX8_of_124 : decode cX8_of 124 = .ok (.aload_n 3, 1) := by decide +kernel
theorem dX8_of_125 : decode cX8_of 125 = .ok (.getfield 107, 3) := by decide +kernel
theorem dX8_of_128 : decode cX8_of 128 = .ok (.ireturn, 1) := by decide +kernel
theorem dX8_of_129 : decode cX8_of 129 = .ok (.aload_n 3, 1) := by decide +kernel
theorem dX8_of_130 : decode cX8_of 130 = .ok (.getfield 110, 3) := by decide +kernel
theorem dX8_of_133 : decode cX8_of 133 = .ok (.ireturn, 1) := by decide +kernel
theorem dX8_of_134 : decode cX8_of 134 = .ok (.aload_n 3, 1) := by decide +kernel
theorem dX8_of_135 : decode cX8_of 135 = .ok (.getfield 113, 3) := by decide +kernel
theorem dX8_of_138 : decode cX8_of 138 = .ok (.iconst 0, 1) := by decide +kernel
theorem dX8_of_139 : decode cX8_of 139 = .ok (.iaload, 1) := by decide +kernel
theorem dX8_of_140 : decode cX8_of 140 = .ok (.ireturn, 1) := by decide +kernel
theorem dX8_of_141 : decode cX8_of 141 = .ok (.aload_n 3, 1) := by decide +kernel
theorem dX8_of_142 : decode cX8_of 142 = .ok (.getfield 113, 3) := by decide +kernel
theorem dX8_of_145 : decode cX8_of 145 = .ok (.iconst 1, 1) := by decide +kernel
theorem dX8_of_146 : decode cX8_of 146 = .ok (.iaload, 1) := by decide +kernel
theorem dX8_of_147 : decode cX8_of 147 = .ok (.ireturn, 1) := by decide +kernel
theorem dX8_of_148 : decode cX8_of 148 = .ok (.aload_n 3, 1) := by decide +kernel
theorem dX8_of_149 : decode cX8_of 149 = .ok (.getfield 116, 3) := by decide +kernel
theorem dX8_of_152 : decode cX8_of 152 = .ok (.iconst 0, 1) := by decide +kernel
theorem dX8_of_153 : decode cX8_of 153 = .ok (.iaload, 1) := by decide +kernel
theorem dX8_of_154 : decode cX8_of 154 = .ok (.iconst 2, 1) := by decide +kernel
theorem dX8_of_155 : decode cX8_of 155 = .ok (.aload_n 3, 1) := by decide +kernel
theorem dX8_of_156 : decode cX8_of 156 = .ok (.getfield 116, 3) := by decide +kernel
theorem dX8_of_159 : decode cX8_of 159 = .ok (.iconst 1, 1) := by decide +kernel
theorem dX8_of_160 : decode cX8_of 160 = .ok (.iaload, 1) := by decide +kernel
theorem dX8_of_161 : decode cX8_of 161 = .ok (.imul, 1) := by decide +kernel
theorem dX8_of_162 : decode cX8_of 162 = .ok (.iadd, 1) := by decide +kernel
theorem dX8_of_163 : decode cX8_of 163 = .ok (.ireturn, 1) := by decide +kernel
theorem dX8_of_164 : decode cX8_of 164 = .ok (.aload_n 3, 1) := by decide +kernel
theorem dX8_of_165 : decode cX8_of 165 = .ok (.getfield 119, 3) := by decide +kernel
theorem dX8_of_168 : decode cX8_of 168 = .ok (.ireturn, 1) := by decide +kernel
theorem dX8_of_169 : decode cX8_of 169 = .ok (.aload_n 3, 1) := by decide +kernel
theorem dX8_of_170 : decode cX8_of 170 = .ok (.getfield 122, 3) := by decide +kernel
theorem dX8_of_173 : decode cX8_of 173 = .ok (.ireturn, 1) := by decide +kernel
theorem dX8_of_174 : decode cX8_of 174 = .ok (.aload_n 0, 1) := by decide +kernel
theorem dX8_of_175 : decode cX8_of 175 = .ok (.aload_n 3, 1) := by decide +kernel
theorem dX8_of_176 : decode cX8_of 176 = .ok (.invokevirtual 99, 3) := by decide +kernel
theorem dX8_of_179 : decode cX8_of 179 = .ok (.getfield 125, 3) := by decide +kernel
theorem dX8_of_182 : decode cX8_of 182 = .ok (.ireturn, 1) := by decide +kernel
theorem dX8_of_183 : decode cX8_of 183 = .ok (.aload_n 0, 1) := by decide +kernel
theorem dX8_of_184 : decode cX8_of 184 = .ok (.aload_n 3, 1) := by decide +kernel
theorem dX8_of_185 : decode cX8_of 185 = .ok (.invokevirtual 99, 3) := by decide +kernel
theorem dX8_of_188 : decode cX8_of 188 = .ok (.getfield 128, 3) := by decide +kernel
theorem dX8_of_191 : decode cX8_of 191 = .ok (.ireturn, 1) := by decide +kernel
theorem dX8_of_192 : decode cX8_of 192 = .ok (.aload_n 0, 1) := by decide +kernel
theorem dX8_of_193 : decode cX8_of 193 = .ok (.aload_n 3, 1) := by decide +kernel
theorem dX8_of_194 : decode cX8_of 194 = .ok (.invokevirtual 99, 3) := by decide +kernel
theorem dX8_of_197 : decode cX8_of 197 = .ok (.getfield 131, 3) := by decide +kernel
theorem dX8_of_200 : decode cX8_of 200 = .ok (.ireturn, 1) := by decide +kernel
theorem dX8_of_201 : decode cX8_of 201 = .ok (.aload_n 0, 1) := by decide +kernel
theorem dX8_of_202 : decode cX8_of 202 = .ok (.aload_n 3, 1) := by decide +kernel
theorem dX8_of_203 : decode cX8_of 203 = .ok (.invokevirtual 99, 3) := by decide +kernel
theorem dX8_of_206 : decode cX8_of 206 = .ok (.invokevirtual 134, 3) := by decide +kernel
theorem dX8_of_209 : decode cX8_of 209 = .ok (.ireturn, 1) := by decide +kernel
theorem dX8_of_210 : decode cX8_of 210 = .ok (.aload_n 0, 1) := by decide +kernel
theorem dX8_of_211 : decode cX8_of 211 = .ok (.aload_n 3, 1) := by decide +kernel
theorem dX8_of_212 : decode cX8_of 212 = .ok (.invokevirtual 99, 3) := by decide +kernel
theorem dX8_of_215 : decode cX8_of 215 = .ok (.invokevirtual 138, 3) := by decide +kernel
theorem dX8_of_218 : decode cX8_of 218 = .ok (.ireturn, 1) := by decide +kernel
theorem dX8_of_219 : decode cX8_of 219 = .ok (.sipush (-10001), 3) := by decide +kernel
theorem dX8_of_222 : decode cX8_of 222 = .ok (.ireturn, 1) := by decide +kernel
theorem dX8_water_0 : decode cX8_water 0 = .ok (.aload_n 0, 1) := by decide +kernel
theorem dX8_water_1 : decode cX8_water 1 = .ok (.iload_n 1, 1) := by decide +kernel
theorem dX8_water_2 : decode cX8_water 2 = .ok (.invokevirtual 92, 3) := by decide +kernel
theorem dX8_water_5 : decode cX8_water 5 = .ok (.astore 4, 2) := by decide +kernel
theorem dX8_water_7 : decode cX8_water 7 = .ok (.aload 4, 2) := by decide +kernel
theorem dX8_water_9 : decode cX8_water 9 = .ok (.ifnull 12, 3) := by decide +kernel
theorem dX8_water_12 : decode cX8_water 12 = .ok (.iload_n 2, 1) := by decide +kernel
theorem dX8_water_13 : decode cX8_water 13 = .ok (.iconst 0, 1) := by decide +kernel
theorem dX8_water_14 : decode cX8_water 14 = .ok (.iconst 1, 1) := by decide +kernel
theorem dX8_water_15 : decode cX8_water 15 = .ok (.invokestatic 67, 3) := by decide +kernel
theorem dX8_water_18 : decode cX8_water 18 = .ok (.ifCond .ne 5, 3) := by decide +kernel
theorem dX8_water_21 : decode cX8_water 21 = .ok (.iconst (-1), 1) := by decide +kernel
theorem dX8_water_22 : decode cX8_water 22 = .ok (.ireturn, 1) := by decide +kernel
theorem dX8_water_23 : decode cX8_water 23 = .ok (.iload_n 3, 1) := by decide +kernel
theorem dX8_water_24 : decode cX8_water 24 = .ok (.iconst 0, 1) := by decide +kernel
theorem dX8_water_25 : decode cX8_water 25 = .ok (.bipush 99, 2) := by decide +kernel
theorem dX8_water_27 : decode cX8_water 27 = .ok (.invokestatic 67, 3) := by decide +kernel
theorem dX8_water_30 : decode cX8_water 30 = .ok (.ifCond .ne 6, 3) := by decide +kernel
theorem dX8_water_33 : decode cX8_water 33 = .ok (.bipush (-2), 2) := by decide +kernel
theorem dX8_water_35 : decode cX8_water 35 = .ok (.ireturn, 1) := by decide +kernel
theorem dX8_water_36 : decode cX8_water 36 = .ok (.aload 4, 2) := by decide +kernel
theorem dX8_water_38 : decode cX8_water 38 = .ok (.getfield 113, 3) := by decide +kernel
theorem dX8_water_41 : decode cX8_water 41 = .ok (.iload_n 2, 1) := by decide +kernel
theorem dX8_water_42 : decode cX8_water 42 = .ok (.iaload, 1) := by decide +kernel
theorem dX8_water_43 : decode cX8_water 43 = .ok (.istore 5, 2) := by decide +kernel
theorem dX8_water_45 : decode cX8_water 45 = .ok (.aload 4, 2) := by decide +kernel
theorem dX8_water_47 : decode cX8_water 47 = .ok (.getfield 113, 3) := by decide +kernel
theorem dX8_water_50 : decode cX8_water 50 = .ok (.iload_n 2, 1) := by decide +kernel
theorem dX8_water_51 : decode cX8_water 51 = .ok (.iload_n 3, 1) := by decide +kernel
theorem dX8_water_52 : decode cX8_water 52 = .ok (.iastore, 1) := by decide +kernel
theorem dX8_water_53 : decode cX8_water 53 = .ok (.iload 5, 2) := by decide +kernel
theorem dX8_water_55 : decode cX8_water 55 = .ok (.ireturn, 1) := by decide +kernel
theorem dX8_sag_0 : decode cX8_sag 0 = .ok (.aload_n 0, 1) := by decide +kernel
theorem dX8_sag_1 : decode cX8_sag 1 = .ok (.iload_n 1, 1) := by decide +kernel
theorem dX8_sag_2 : decode cX8_sag 2 = .ok (.invokevirtual 92, 3) := by decide +kernel
theorem dX8_sag_5 : decode cX8_sag 5 = .ok (.astore_n 3, 1) := by decide +kernel
theorem dX8_sag_6 : decode cX8_sag 6 = .ok (.aload_n 3, 1) := by decide +kernel
theorem dX8_sag_7 : decode cX8_sag 7 = .ok (.ifnonnull 5, 3) := by decide +kernel
theorem dX8_sag_10 : decode cX8_sag 10 = .ok (.iconst (-1), 1) := by decide +kernel
theorem dX8_sag_11 : decode cX8_sag 11 = .ok (.ireturn, 1) := by decide +kernel
theorem dX8_sag_12 : decode cX8_sag 12 = .ok (.iload_n 2, 1) := by decide +kernel
theorem dX8_sag_13 : decode cX8_sag 13 = .ok (.iconst 0, 1) := by decide +kernel
theorem dX8_sag_14 : decode cX8_sag 14 = .ok (.bipush 20, 2) := by decide +kernel
theorem dX8_sag_16 : decode cX8_sag 16 = .ok (.invokestatic 67, 3) := by decide +kernel
theorem dX8_sag_19 : decode cX8_sag 19 = .ok (.ifCond .ne 6, 3) := by decide +kernel
theorem dX8_sag_22 : decode cX8_sag 22 = .ok (.bipush (-2), 2) := by decide +kernel
theorem dX8_sag_24 : decode cX8_sag 24 = .ok (.ireturn, 1) := by decide +kernel
theorem dX8_sag_25 : decode cX8_sag 25 = .ok (.aload_n 3, 1) := by decide +kernel
theorem dX8_sag_26 : decode cX8_sag 26 = .ok (.getfield 119, 3) := by decide +kernel
theorem dX8_sag_29 : decode cX8_sag 29 = .ok (.istore 4, 2) := by decide +kernel
theorem dX8_sag_31 : decode cX8_sag 31 = .ok (.aload_n 3, 1) := by decide +kernel
theorem dX8_sag_32 : decode cX8_sag 32 = .ok (.iload_n 2, 1) := by decide +kernel
theorem dX8_sag_33 : decode cX8_sag 33 = .ok (.putfield 119, 3) := by decide +kernel
theorem dX8_sag_36 : decode cX8_sag 36 = .ok (.iload 4, 2) := by decide +kernel
theorem dX8_sag_38 : decode cX8_sag 38 = .ok (.ireturn, 1) := by decide +kernel
theorem dX8_feed_0 : decode cX8_feed 0 = .ok (.iload_n 1, 1) := by decide +kernel
theorem dX8_feed_1 : decode cX8_feed 1 = .ok (.iconst 0, 1) := by decide +kernel
theorem dX8_feed_2 : decode cX8_feed 2 = .ok (.bipush 127, 2) := by decide +kernel
theorem dX8_feed_4 : decode cX8_feed 4 = .ok (.invokestatic 67, 3) := by decide +kernel
theorem dX8_feed_7 : decode cX8_feed 7 = .ok (.ifCond .ne 6, 3) := by decide +kernel
theorem dX8_feed_10 : decode cX8_feed 10 = .ok (.bipush (-2), 2) := by decide +kernel
theorem dX8_feed_12 : decode cX8_feed 12 = .ok (.ireturn, 1) := by decide +kernel
theorem dX8_feed_13 : decode cX8_feed 13 = .ok (.aload_n 0, 1) := by decide +kernel
theorem dX8_feed_14 : decode cX8_feed 14 = .ok (.getfield 24, 3) := by decide +kernel
theorem dX8_feed_17 : decode cX8_feed 17 = .ok (.iload_n 1, 1) := by decide +kernel
theorem dX8_feed_18 : decode cX8_feed 18 = .ok (.invokevirtual 141, 3) := by decide +kernel
theorem dX8_feed_21 : decode cX8_feed 21 = .ok (.ifCond .eq 13, 3) := by decide +kernel
theorem dX8_feed_24 : decode cX8_feed 24 = .ok (.aload_n 0, 1) := by decide +kernel
theorem dX8_feed_25 : decode cX8_feed 25 = .ok (.getfield 24, 3) := by decide +kernel
theorem dX8_feed_28 : decode cX8_feed 28 = .ok (.getfield 145, 3) := by decide +kernel
theorem dX8_feed_31 : decode cX8_feed 31 = .ok (.goto 5, 3) := by decide +kernel
theorem dX8_feed_34 : decode cX8_feed 34 = .ok (.bipush (-4), 2) := by decide +kernel
theorem dX8_feed_36 : decode cX8_feed 36 = .ok (.ireturn, 1) := by decide +kernel
theorem dX8_house_0 : decode cX8_house 0 = .ok (.aload_n 0, 1) := by decide +kernel
theorem dX8_house_1 : decode cX8_house 1 = .ok (.getfield 148, 3) := by decide +kernel
theorem dX8_house_4 : decode cX8_house 4 = .ok (.bipush 6, 2) := by decide +kernel
theorem dX8_house_6 : decode cX8_house 6 = .ok (.if_icmp .lt 6, 3) := by decide +kernel
theorem dX8_house_9 : decode cX8_house 9 = .ok (.bipush (-4), 2) := by decide +kernel
theorem dX8_house_11 : decode cX8_house 11 = .ok (.ireturn, 1) := by decide +kernel
theorem dX8_house_12 : decode cX8_house 12 = .ok (.aload_n 0, 1) := by decide +kernel
theorem dX8_house_13 : decode cX8_house 13 = .ok (.getfield 24, 3) := by decide +kernel
theorem dX8_house_16 : decode cX8_house 16 = .ok (.invokevirtual 151, 3) := by decide +kernel
theorem dX8_house_19 : decode cX8_house 19 = .ok (.istore_n 1, 1) := by decide +kernel
theorem dX8_house_20 : decode cX8_house 20 = .ok (.aload_n 0, 1) := by decide +kernel
theorem dX8_house_21 : decode cX8_house 21 = .ok (.getfield 24, 3) := by decide +kernel
theorem dX8_house_24 : decode cX8_house 24 = .ok (.iconst 0, 1) := by decide +kernel
theorem dX8_house_25 : decode cX8_house 25 = .ok (.putfield 145, 3) := by decide +kernel
theorem dX8_house_28 : decode cX8_house 28 = .ok (.iload_n 1, 1) := by decide +kernel
theorem dX8_house_29 : decode cX8_house 29 = .ok (.iconst (-1), 1) := by decide +kernel
theorem dX8_house_30 : decode cX8_house 30 = .ok (.if_icmp .eq 8, 3) := by decide +kernel
theorem dX8_house_33 : decode cX8_house 33 = .ok (.bipush (-10), 2) := by decide +kernel
theorem dX8_house_35 : decode cX8_house 35 = .ok (.iload_n 1, 1) := by decide +kernel
theorem dX8_house_36 : decode cX8_house 36 = .ok (.isub, 1) := by decide +kernel
theorem dX8_house_37 : decode cX8_house 37 = .ok (.ireturn, 1) := by decide +kernel
theorem dX8_house_38 : decode cX8_house 38 = .ok (.aload_n 0, 1) := by decide +kernel
theorem dX8_house_39 : decode cX8_house 39 = .ok (.getfield 39, 3) := by decide +kernel
theorem dX8_house_42 : decode cX8_house 42 = .ok (.aload_n 0, 1) := by decide +kernel
theorem dX8_house_43 : decode cX8_house 43 = .ok (.getfield 148, 3) := by decide +kernel
theorem dX8_house_46 : decode cX8_house 46 = .ok (.aload_n 0, 1) := by decide +kernel
theorem dX8_house_47 : decode cX8_house 47 = .ok (.getfield 24, 3) := by decide +kernel
theorem dX8_house_50 : decode cX8_house 50 = .ok (.invokevirtual 154, 3) := by decide +kernel
theorem dX8_house_53 : decode cX8_house 53 = .ok (.aastore, 1) := by decide +kernel
theorem dX8_house_54 : decode cX8_house 54 = .ok (.aload_n 0, 1) := by decide +kernel
theorem dX8_house_55 : decode cX8_house 55 = .ok (.getfield 12, 3) := by decide +kernel
theorem dX8_house_58 : decode cX8_house 58 = .ok (.aload_n 0, 1) := by decide +kernel
theorem dX8_house_59 : decode cX8_house 59 = .ok (.getfield 148, 3) := by decide +kernel
theorem dX8_house_62 : decode cX8_house 62 = .ok (.putfield 158, 3) := by decide +kernel
theorem dX8_house_65 : decode cX8_house 65 = .ok (.aload_n 0, 1) := by decide +kernel
theorem dX8_house_66 : decode cX8_house 66 = .ok (.dup, 1) := by decide +kernel
theorem dX8_house_67 : decode cX8_house 67 = .ok (.getfield 148, 3) := by decide +kernel
theorem dX8_house_70 : decode cX8_house 70 = .ok (.iconst 1, 1) := by decide +kernel
theorem dX8_house_71 : decode cX8_house 71 = .ok (.iadd, 1) := by decide +kernel
theorem dX8_house_72 : decode cX8_house 72 = .ok (.putfield 148, 3) := by decide +kernel
theorem dX8_house_75 : decode cX8_house 75 = .ok (.aload_n 0, 1) := by decide +kernel
theorem dX8_house_76 : decode cX8_house 76 = .ok (.getfield 12, 3) := by decide +kernel
theorem dX8_house_79 : decode cX8_house 79 = .ok (.getfield 158, 3) := by decide +kernel
theorem dX8_house_82 : decode cX8_house 82 = .ok (.ireturn, 1) := by decide +kernel
theorem dX8_told_0 : decode cX8_told 0 = .ok (.iload_n 1, 1) := by decide +kernel
theorem dX8_told_1 : decode cX8_told 1 = .ok (.bipush 10, 2) := by decide +kernel
theorem dX8_told_3 : decode cX8_told 3 = .ok (.bipush 21, 2) := by decide +kernel
theorem dX8_told_5 : decode cX8_told 5 = .ok (.invokestatic 67, 3) := by decide +kernel
theorem dX8_told_8 : decode cX8_told 8 = .ok (.ifCond .eq 16, 3) := by decide +kernel
theorem dX8_told_11 : decode cX8_told 11 = .ok (.aload_n 0, 1) := by decide +kernel
theorem dX8_told_12 : decode cX8_told 12 = .ok (.getfield 12, 3) := by decide +kernel
theorem dX8_told_15 : decode cX8_told 15 = .ok (.getfield 71, 3) := by decide +kernel
theorem dX8_told_18 : decode cX8_told 18 = .ok (.iload_n 1, 1) := by decide +kernel
theorem dX8_told_19 : decode cX8_told 19 = .ok (.bipush 10, 2) := by decide +kernel
theorem dX8_told_21 : decode cX8_told 21 = .ok (.isub, 1) := by decide +kernel
theorem dX8_told_22 : decode cX8_told 22 = .ok (.iaload, 1) := by decide +kernel
theorem dX8_told_23 : decode cX8_told 23 = .ok (.ireturn, 1) := by decide +kernel
theorem dX8_told_24 : decode cX8_told 24 = .ok (.iload_n 1, 1) := by decide +kernel
theorem dX8_told_25 : decode cX8_told 25 = .ok (.tableswitch 63 0 3 #[31, 39, 47, 55], 31) := by decide +kernel
theorem dX8_told_56 : decode cX8_told 56 = .ok (.aload_n 0, 1) := by decide +kernel
theorem dX8_told_57 : decode cX8_told 57 = .ok (.invokevirtual 161, 3) := by decide +kernel
theorem dX8_told_60 : decode cX8_told 60 = .ok (.getfield 164, 3) := by decide +kernel
theorem dX8_told_63 : decode cX8_told 63 = .ok (.ireturn, 1) := by decide +kernel
theorem dX8_told_64 : decode cX8_told 64 = .ok (.aload_n 0, 1) := by decide +kernel
theorem dX8_told_65 : decode cX8_told 65 = .ok (.invokevirtual 161, 3) := by decide +kernel
theorem dX8_told_68 : decode cX8_told 68 = .ok (.getfield 167, 3) := by decide +kernel
theorem dX8_told_71 : decode cX8_told 71 = .ok (.ireturn, 1) := by decide +kernel
theorem dX8_told_72 : decode cX8_told 72 = .ok (.aload_n 0, 1) := by decide +kernel
theorem dX8_told_73 : decode cX8_told 73 = .ok (.getfield 12, 3) := by decide +kernel
theorem dX8_told_76 : decode cX8_told 76 = .ok (.getfield 170, 3) := by decide +kernel
theorem dX8_told_79 : decode cX8_told 79 = .ok (.ireturn, 1) := by decide +kernel
theorem dX8_told_80 : decode cX8_told 80 = .ok (.aload_n 0, 1) := by decide +kernel
theorem dX8_told_81 : decode cX8_told 81 = .ok (.getfield 12, 3) := by decide +kernel
theorem dX8_told_84 : decode cX8_told 84 = .ok (.getfield 75, 3) := by decide +kernel
theorem dX8_told_87 : decode cX8_told 87 = .ok (.ireturn, 1) := by decide +kernel
theorem dX8_told_88 : decode cX8_told 88 = .ok (.iconst (-1), 1) := by decide +kernel
theorem dX8_told_89 : decode cX8_told 89 = .ok (.ireturn, 1) := by decide +kernel
theorem dX8_month_0 : decode cX8_month 0 = .ok (.aload_n 0, 1) := by decide +kernel
theorem dX8_month_1 : decode cX8_month 1 = .ok (.getfield 12, 3) := by decide +kernel
theorem dX8_month_4 : decode cX8_month 4 = .ok (.getfield 170, 3) := by decide +kernel
theorem dX8_month_7 : decode cX8_month 7 = .ok (.sipush 9999, 3) := by decide +kernel
theorem dX8_month_10 : decode cX8_month 10 = .ok (.if_icmp .lt 6, 3) := by decide +kernel
theorem dX8_month_13 : decode cX8_month 13 = .ok (.bipush (-3), 2) := by decide +kernel
theorem dX8_month_15 : decode cX8_month 15 = .ok (.ireturn, 1) := by decide +kernel
theorem dX8_month_16 : decode cX8_month 16 = .ok (.aload_n 0, 1) := by decide +kernel
theorem dX8_month_17 : decode cX8_month 17 = .ok (.invokevirtual 161, 3) := by decide +kernel
theorem dX8_month_20 : decode cX8_month 20 = .ok (.astore_n 1, 1) := by decide +kernel
theorem dX8_month_21 : decode cX8_month 21 = .ok (.aload_n 0, 1) := by decide +kernel
theorem dX8_month_22 : decode cX8_month 22 = .ok (.getfield 12, 3) := by decide +kernel
theorem dX8_month_25 : decode cX8_month 25 = .ok (.getfield 71, 3) := by decide +kernel
theorem dX8_month_28 : decode cX8_month 28 = .ok (.aload_n 0, 1) := by decide +kernel
theorem dX8_month_29 : decode cX8_month 29 = .ok (.getfield 12, 3) := by decide +kernel
theorem dX8_month_32 : decode cX8_month 32 = .ok (.getfield 170, 3) := by decide +kernel
theorem dX8_month_35 : decode cX8_month 35 = .ok (.bipush 12, 2) := by decide +kernel
theorem dX8_month_37 : decode cX8_month 37 = .ok (.irem, 1) := by decide +kernel
theorem dX8_month_38 : decode cX8_month 38 = .ok (.iaload, 1) := by decide +kernel
theorem dX8_month_39 : decode cX8_month 39 = .ok (.istore_n 2, 1) := by decide +kernel
theorem dX8_month_40 : decode cX8_month 40 = .ok (.iconst 0, 1) := by decide +kernel
theorem dX8_month_41 : decode cX8_month 41 = .ok (.istore_n 3, 1) := by decide +kernel
theorem dX8_month_42 : decode cX8_month 42 = .ok (.iload_n 3, 1) := by decide +kernel
theorem dX8_month_43 : decode cX8_month 43 = .ok (.aload_n 0, 1) := by decide +kernel
theorem dX8_month_44 : decode cX8_month 44 = .ok (.getfield 12, 3) := by decide +kernel
theorem dX8_month_47 : decode cX8_month 47 = .ok (.getfield 79, 3) := by decide +kernel
theorem dX8_month_50 : decode cX8_month 50 = .ok (.if_icmp .ge 48, 3) := by decide +kernel
theorem dX8_month_53 : decode cX8_month 53 = .ok (.aload_n 0, 1) := by decide +kernel
theorem dX8_month_54 : decode cX8_month 54 = .ok (.getfield 12, 3) := by decide +kernel
theorem dX8_month_57 : decode cX8_month 57 = .ok (.getfield 82, 3) := by decide +kernel
theorem dX8_month_60 : decode cX8_month 60 = .ok (.iload_n 3, 1) := by decide +kernel
theorem dX8_month_61 : decode cX8_month 61 = .ok (.aaload, 1) := by decide +kernel
theorem dX8_month_62 : decode cX8_month 62 = .ok (.astore 4, 2) := by decide +kernel
theorem dX8_month_64 : decode cX8_month 64 = .ok (.aload 4, 2) := by decide +kernel
theorem dX8_month_66 : decode cX8_month 66 = .ok (.iload_n 2, 1) := by decide +kernel
theorem dX8_month_67 : decode cX8_month 67 = .ok (.invokevirtual 173, 3) := by decide +kernel
theorem dX8_month_70 : decode cX8_month 70 = .ok (.aload 4, 2) := by decide +kernel
theorem dX8_month_72 : decode cX8_month 72 = .ok (.aload_n 1, 1) := by decide +kernel
theorem dX8_month_73 : decode cX8_month 73 = .ok (.iconst 1, 1) := by decide +kernel
theorem dX8_month_74 : decode cX8_month 74 = .ok (.aload 4, 2) := by decide +kernel
theorem dX8_month_76 : decode cX8_month 76 = .ok (.aload_n 0, 1) := by decide +kernel
theorem dX8_month_77 : decode cX8_month 77 = .ok (.getfield 12, 3) := by decide +kernel
theorem dX8_month_80 : decode cX8_month 80 = .ok (.getfield 170, 3) := by decide +kernel
theorem dX8_month_83 : decode cX8_month 83 = .ok (.invokevirtual 177, 3) := by decide +kernel
theorem dX8_month_86 : decode cX8_month 86 = .ok (.invokevirtual 181, 3) := by decide +kernel
theorem dX8_month_89 : decode cX8_month 89 = .ok (.invokevirtual 185, 3) := by decide +kernel
theorem dX8_month_92 : decode cX8_month 92 = .ok (.iinc 3 1, 3) := by decide +kernel
theorem dX8_month_95 : decode cX8_month 95 = .ok (.goto (-53), 3) := by decide +kernel
theorem dX8_month_98 : decode cX8_month 98 = .ok (.aload_n 0, 1) := by decide +kernel
theorem dX8_month_99 : decode cX8_month 99 = .ok (.getfield 12, 3) := by decide +kernel
theorem dX8_month_102 : decode cX8_month 102 = .ok (.dup, 1) := by decide +kernel
theorem dX8_month_103 : decode cX8_month 103 = .ok (.getfield 170, 3) := by decide +kernel
theorem dX8_month_106 : decode cX8_month 106 = .ok (.iconst 1, 1) := by decide +kernel
theorem dX8_month_107 : decode cX8_month 107 = .ok (.iadd, 1) := by decide +kernel
theorem dX8_month_108 : decode cX8_month 108 = .ok (.putfield 170, 3) := by decide +kernel
theorem dX8_month_111 : decode cX8_month 111 = .ok (.aload_n 0, 1) := by decide +kernel
theorem dX8_month_112 : decode cX8_month 112 = .ok (.getfield 12, 3) := by decide +kernel
theorem dX8_month_115 : decode cX8_month 115 = .ok (.aload_n 0, 1) := by decide +kernel
theorem dX8_month_116 : decode cX8_month 116 = .ok (.getfield 12, 3) := by decide +kernel
theorem dX8_month_119 : decode cX8_month 119 = .ok (.getfield 75, 3) := by decide +kernel
theorem dX8_month_122 : decode cX8_month 122 = .ok (.aload_n 0, 1) := by decide +kernel
theorem dX8_month_123 : decode cX8_month 123 = .ok (.getfield 12, 3) := by decide +kernel
theorem dX8_month_126 : decode cX8_month 126 = .ok (.getfield 170, 3) := by decide +kernel
theorem dX8_month_129 : decode cX8_month 129 = .ok (.aload_n 1, 1) := by decide +kernel
theorem dX8_month_130 : decode cX8_month 130 = .ok (.getfield 164, 3) := by decide +kernel
theorem dX8_month_133 : decode cX8_month 133 = .ok (.invokestatic 188, 3) := by decide +kernel
theorem dX8_month_136 : decode cX8_month 136 = .ok (.putfield 75, 3) := by decide +kernel
theorem dX8_month_139 : decode cX8_month 139 = .ok (.aload_n 0, 1) := by decide +kernel
theorem dX8_month_140 : decode cX8_month 140 = .ok (.getfield 12, 3) := by decide +kernel
theorem dX8_month_143 : decode cX8_month 143 = .ok (.getfield 170, 3) := by decide +kernel
theorem dX8_month_146 : decode cX8_month 146 = .ok (.ireturn, 1) := by decide +kernel
theorem dX8_mend_0 : decode cX8_mend 0 = .ok (.aload_n 0, 1) := by decide +kernel
theorem dX8_mend_1 : decode cX8_mend 1 = .ok (.iload_n 1, 1) := by decide +kernel
theorem dX8_mend_2 : decode cX8_mend 2 = .ok (.invokevirtual 92, 3) := by decide +kernel
theorem dX8_mend_5 : decode cX8_mend 5 = .ok (.astore 5, 2) := by decide +kernel
theorem dX8_mend_7 : decode cX8_mend 7 = .ok (.aload 5, 2) := by decide +kernel
theorem dX8_mend_9 : decode cX8_mend 9 = .ok (.ifnull 20, 3) := by decide +kernel
theorem dX8_mend_12 : decode cX8_mend 12 = .ok (.iload_n 2, 1) := by decide +kernel
theorem dX8_mend_13 : decode cX8_mend 13 = .ok (.iconst 0, 1) := by decide +kernel
theorem dX8_mend_14 : decode cX8_mend 14 = .ok (.iconst 4, 1) := by decide +kernel
theorem dX8_mend_15 : decode cX8_mend 15 = .ok (.invokestatic 67, 3) := by decide +kernel
theorem dX8_mend_18 : decode cX8_mend 18 = .ok (.ifCond .eq 11, 3) := by decide +kernel
theorem dX8_mend_21 : decode cX8_mend 21 = .ok (.iload_n 2, 1) := by decide +kernel
theorem dX8_mend_22 : decode cX8_mend 22 = .ok (.iload_n 3, 1) := by decide +kernel
theorem dX8_mend_23 : decode cX8_mend 23 = .ok (.invokestatic 192, 3) := by decide +kernel
theorem dX8_mend_26 : decode cX8_mend 26 = .ok (.ifCond .ne 5, 3) := by decide +kernel
theorem dX8_mend_29 : decode cX8_mend 29 = .ok (.iconst (-1), 1) := by decide +kernel
theorem dX8_mend_30 : decode cX8_mend 30 = .ok (.ireturn, 1) := by decide +kernel
theorem dX8_mend_31 : decode cX8_mend 31 = .ok (.iload_n 2, 1) := by decide +kernel
theorem dX8_mend_32 : decode cX8_mend 32 = .ok (.iconst 2, 1) := by decide +kernel
theorem dX8_mend_33 : decode cX8_mend 33 = .ok (.if_icmp .eq 22, 3) := by decide +kernel
theorem dX8_mend_36 : decode cX8_mend 36 = .ok (.iload_n 2, 1) := by decide +kernel
theorem dX8_mend_37 : decode cX8_mend 37 = .ok (.iconst 3, 1) := by decide +kernel
theorem dX8_mend_38 : decode cX8_mend 38 = .ok (.if_icmp .eq 17, 3) := by decide +kernel
theorem dX8_mend_41 : decode cX8_mend 41 = .ok (.iload 4, 2) := by decide +kernel
theorem dX8_mend_43 : decode cX8_mend 43 = .ok (.iconst 0, 1) := by decide +kernel
theorem dX8_mend_44 : decode cX8_mend 44 = .ok (.bipush 9, 2) := by decide +kernel
theorem dX8_mend_46 : decode cX8_mend 46 = .ok (.invokestatic 67, 3) := by decide +kernel
theorem dX8_mend_49 : decode cX8_mend 49 = .ok (.ifCond .ne 6, 3) := by decide +kernel
theorem dX8_mend_52 : decode cX8_mend 52 = .ok (.bipush (-2), 2) := by decide +kernel
theorem dX8_mend_54 : decode cX8_mend 54 = .ok (.ireturn, 1) := by decide +kernel
theorem dX8_mend_55 : decode cX8_mend 55 = .ok (.iload_n 2, 1) := by decide +kernel
theorem dX8_mend_56 : decode cX8_mend 56 = .ok (.tableswitch 62 0 3 #[32, 41, 49, 55], 32) := by decide +kernel
theorem dX8_mend_88 : decode cX8_mend 88 = .ok (.aload 5, 2) := by decide +kernel
theorem dX8_mend_90 : decode cX8_mend 90 = .ok (.iload_n 3, 1) := by decide +kernel
theorem dX8_mend_91 : decode cX8_mend 91 = .ok (.iload 4, 2) := by decide +kernel
theorem dX8_mend_93 : decode cX8_mend 93 = .ok (.invokevirtual 196, 3) := by decide +kernel
theorem dX8_mend_96 : decode cX8_mend 96 = .ok (.ireturn, 1) := by decide +kernel
theorem dX8_mend_97 : decode cX8_mend 97 = .ok (.aload 5, 2) := by decide +kernel
theorem dX8_mend_99 : decode cX8_mend 99 = .ok (.iload 4, 2) := by decide +kernel
theorem dX8_mend_101 : decode cX8_mend 101 = .ok (.invokevirtual 200, 3) := by decide +kernel
theorem dX8_mend_104 : decode cX8_mend 104 = .ok (.ireturn, 1) := by decide +kernel
theorem dX8_mend_105 : decode cX8_mend 105 = .ok (.aload 5, 2) := by decide +kernel
theorem dX8_mend_107 : decode cX8_mend 107 = .ok (.invokevirtual 203, 3) := by decide +kernel
theorem dX8_mend_110 : decode cX8_mend 110 = .ok (.ireturn, 1) := by decide +kernel
theorem dX8_mend_111 : decode cX8_mend 111 = .ok (.aload 5, 2) := by decide +kernel
theorem dX8_mend_113 : decode cX8_mend 113 = .ok (.iload_n 3, 1) := by decide +kernel
theorem dX8_mend_114 : decode cX8_mend 114 = .ok (.invokevirtual 206, 3) := by decide +kernel
theorem dX8_mend_117 : decode cX8_mend 117 = .ok (.ireturn, 1) := by decide +kernel
theorem dX8_mend_118 : decode cX8_mend 118 = .ok (.aload 5, 2) := by decide +kernel
theorem dX8_mend_120 : decode cX8_mend 120 = .ok (.iload_n 3, 1) := by decide +kernel
theorem dX8_mend_121 : decode cX8_mend 121 = .ok (.iload 4, 2) := by decide +kernel
theorem dX8_mend_123 : decode cX8_mend 123 = .ok (.ineg, 1) := by decide +kernel
theorem dX8_mend_124 : decode cX8_mend 124 = .ok (.invokevirtual 196, 3) := by decide +kernel
theorem dX8_mend_127 : decode cX8_mend 127 = .ok (.ireturn, 1) := by decide +kernel
theorem dX8_run_0 : decode cX8_run 0 = .ok (.aload_n 0, 1) := by decide +kernel
theorem dX8_run_1 : decode cX8_run 1 = .ok (.iload_n 1, 1) := by decide +kernel
theorem dX8_run_2 : decode cX8_run 2 = .ok (.invokevirtual 92, 3) := by decide +kernel
theorem dX8_run_5 : decode cX8_run 5 = .ok (.astore 4, 2) := by decide +kernel
theorem dX8_run_7 : decode cX8_run 7 = .ok (.aload 4, 2) := by decide +kernel
theorem dX8_run_9 : decode cX8_run 9 = .ok (.ifnull 13, 3) := by decide +kernel
theorem dX8_run_12 : decode cX8_run 12 = .ok (.iload_n 3, 1) := by decide +kernel
theorem dX8_run_13 : decode cX8_run 13 = .ok (.iconst 0, 1) := by decide +kernel
theorem dX8_run_14 : decode cX8_run 14 = .ok (.bipush 8, 2) := by decide +kernel
theorem dX8_run_16 : decode cX8_run 16 = .ok (.invokestatic 67, 3) := by decide +kernel
theorem dX8_run_19 : decode cX8_run 19 = .ok (.ifCond .ne 7, 3) := by decide +kernel
theorem dX8_run_22 : decode cX8_run 22 = .ok (.sipush (-10001), 3) := by decide +kernel
theorem dX8_run_25 : decode cX8_run 25 = .ok (.ireturn, 1) := by decide +kernel
theorem dX8_run_26 : decode cX8_run 26 = .ok (.iload_n 2, 1) := by decide +kernel
theorem dX8_run_27 : decode cX8_run 27 = .ok (.iconst 0, 1) := by decide +kernel
theorem dX8_run_28 : decode cX8_run 28 = .ok (.bipush 60, 2) := by decide +kernel
theorem dX8_run_30 : decode cX8_run 30 = .ok (.invokestatic 67, 3) := by decide +kernel
theorem dX8_run_33 : decode cX8_run 33 = .ok (.ifCond .ne 7, 3) := by decide +kernel
theorem dX8_run_36 : decode cX8_run 36 = .ok (.sipush (-10002), 3) := by decide +kernel
theorem dX8_run_39 : decode cX8_run 39 = .ok (.ireturn, 1) := by decide +kernel
theorem dX8_run_40 : decode cX8_run 40 = .ok (.aload_n 0, 1) := by decide +kernel
theorem dX8_run_41 : decode cX8_run 41 = .ok (.aload 4, 2) := by decide +kernel
theorem dX8_run_43 : decode cX8_run 43 = .ok (.invokevirtual 99, 3) := by decide +kernel
theorem dX8_run_46 : decode cX8_run 46 = .ok (.iload_n 2, 1) := by decide +kernel
theorem dX8_run_47 : decode cX8_run 47 = .ok (.invokevirtual 209, 3) := by decide +kernel
theorem dX8_run_50 : decode cX8_run 50 = .ok (.iload_n 3, 1) := by decide +kernel
theorem dX8_run_51 : decode cX8_run 51 = .ok (.tableswitch 62 6 8 #[25, 38, 51], 25) := by decide +kernel
theorem dX8_run_76 : decode cX8_run 76 = .ok (.aload_n 0, 1) := by decide +kernel
theorem dX8_run_77 : decode cX8_run 77 = .ok (.getfield 46, 3) := by decide +kernel
theorem dX8_run_80 : decode cX8_run 80 = .ok (.getfield 212, 3) := by decide +kernel
theorem dX8_run_83 : decode cX8_run 83 = .ok (.getfield 113, 3) := by decide +kernel
theorem dX8_run_86 : decode cX8_run 86 = .ok (.iconst 0, 1) := by decide +kernel
theorem dX8_run_87 : decode cX8_run 87 = .ok (.iaload, 1) := by decide +kernel
theorem dX8_run_88 : decode cX8_run 88 = .ok (.ireturn, 1) := by decide +kernel
theorem dX8_run_89 : decode cX8_run 89 = .ok (.aload_n 0, 1) := by decide +kernel
theorem dX8_run_90 : decode cX8_run 90 = .ok (.getfield 46, 3) := by decide +kernel
theorem dX8_run_93 : decode cX8_run 93 = .ok (.getfield 212, 3) := by decide +kernel
theorem dX8_run_96 : decode cX8_run 96 = .ok (.getfield 113, 3) := by decide +kernel
theorem dX8_run_99 : decode cX8_run 99 = .ok (.iconst 1, 1) := by decide +kernel
theorem dX8_run_100 : decode cX8_run 100 = .ok (.iaload, 1) := by decide +kernel
theorem dX8_run_101 : decode cX8_run 101 = .ok (.ireturn, 1) := by decide +kernel
theorem dX8_run_102 : decode cX8_run 102 = .ok (.aload_n 0, 1) := by decide +kernel
theorem dX8_run_103 : decode cX8_run 103 = .ok (.getfield 46, 3) := by decide +kernel
theorem dX8_run_106 : decode cX8_run 106 = .ok (.getfield 212, 3) := by decide +kernel
theorem dX8_run_109 : decode cX8_run 109 = .ok (.getfield 119, 3) := by decide +kernel
theorem dX8_run_112 : decode cX8_run 112 = .ok (.ireturn, 1) := by decide +kernel
theorem dX8_run_113 : decode cX8_run 113 = .ok (.aload_n 0, 1) := by decide +kernel
theorem dX8_run_114 : decode cX8_run 114 = .ok (.getfield 46, 3) := by decide +kernel
theorem dX8_run_117 : decode cX8_run 117 = .ok (.iload_n 3, 1) := by decide +kernel
theorem dX8_run_118 : decode cX8_run 118 = .ok (.invokevirtual 103, 3) := by decide +kernel
theorem dX8_run_121 : decode cX8_run 121 = .ok (.ireturn, 1) := by decide +kernel
theorem dX8_first_0 : decode cX8_first 0 = .ok (.aload_n 0, 1) := by decide +kernel
theorem dX8_first_1 : decode cX8_first 1 = .ok (.iload_n 1, 1) := by decide +kernel
theorem dX8_first_2 : decode cX8_first 2 = .ok (.invokevirtual 92, 3) := by decide +kernel
theorem dX8_first_5 : decode cX8_first 5 = .ok (.astore_n 3, 1) := by decide +kernel
theorem dX8_first_6 : decode cX8_first 6 = .ok (.aload_n 3, 1) := by decide +kernel
theorem dX8_first_7 : decode cX8_first 7 = .ok (.ifnull 12, 3) := by decide +kernel
theorem dX8_first_10 : decode cX8_first 10 = .ok (.iload_n 2, 1) := by decide +kernel
theorem dX8_first_11 : decode cX8_first 11 = .ok (.iconst 0, 1) := by decide +kernel
theorem dX8_first_12 : decode cX8_first 12 = .ok (.iconst 1, 1) := by decide +kernel
theorem dX8_first_13 : decode cX8_first 13 = .ok (.invokestatic 67, 3) := by decide +kernel
theorem dX8_first_16 : decode cX8_first 16 = .ok (.ifCond .ne 5, 3) := by decide +kernel
theorem dX8_first_19 : decode cX8_first 19 = .ok (.iconst (-1), 1) := by decide +kernel
theorem dX8_first_20 : decode cX8_first 20 = .ok (.ireturn, 1) := by decide +kernel
theorem dX8_first_21 : decode cX8_first 21 = .ok (.aload_n 0, 1) := by decide +kernel
theorem dX8_first_22 : decode cX8_first 22 = .ok (.aload_n 3, 1) := by decide +kernel
theorem dX8_first_23 : decode cX8_first 23 = .ok (.invokevirtual 99, 3) := by decide +kernel
theorem dX8_first_26 : decode cX8_first 26 = .ok (.pop, 1) := by decide +kernel
theorem dX8_first_27 : decode cX8_first 27 = .ok (.iconst 0, 1) := by decide +kernel
theorem dX8_first_28 : decode cX8_first 28 = .ok (.istore 4, 2) := by decide +kernel
theorem dX8_first_30 : decode cX8_first 30 = .ok (.iload 4, 2) := by decide +kernel
theorem dX8_first_32 : decode cX8_first 32 = .ok (.bipush 60, 2) := by decide +kernel
theorem dX8_first_34 : decode cX8_first 34 = .ok (.if_icmp .gt 45, 3) := by decide +kernel
theorem dX8_first_37 : decode cX8_first 37 = .ok (.aload_n 0, 1) := by decide +kernel
theorem dX8_first_38 : decode cX8_first 38 = .ok (.getfield 46, 3) := by decide +kernel
theorem dX8_first_41 : decode cX8_first 41 = .ok (.invokevirtual 216, 3) := by decide +kernel
theorem dX8_first_44 : decode cX8_first 44 = .ok (.istore 5, 2) := by decide +kernel
theorem dX8_first_46 : decode cX8_first 46 = .ok (.iload 5, 2) := by decide +kernel
theorem dX8_first_48 : decode cX8_first 48 = .ok (.bipush (-5), 2) := by decide +kernel
theorem dX8_first_50 : decode cX8_first 50 = .ok (.if_icmp .eq 15, 3) := by decide +kernel
theorem dX8_first_53 : decode cX8_first 53 = .ok (.iload_n 2, 1) := by decide +kernel
theorem dX8_first_54 : decode cX8_first 54 = .ok (.ifCond .ne 8, 3) := by decide +kernel
theorem dX8_first_57 : decode cX8_first 57 = .ok (.iload 4, 2) := by decide +kernel
theorem dX8_first_59 : decode cX8_first 59 = .ok (.goto 5, 3) := by decide +kernel
theorem dX8_first_62 : decode cX8_first 62 = .ok (.iload 5, 2) := by decide +kernel
theorem dX8_first_64 : decode cX8_first 64 = .ok (.ireturn, 1) := by decide +kernel
theorem dX8_first_65 : decode cX8_first 65 = .ok (.aload_n 0, 1) := by decide +kernel
theorem dX8_first_66 : decode cX8_first 66 = .ok (.getfield 46, 3) := by decide +kernel
theorem dX8_first_69 : decode cX8_first 69 = .ok (.iconst 1, 1) := by decide +kernel
theorem dX8_first_70 : decode cX8_first 70 = .ok (.invokevirtual 209, 3) := by decide +kernel
theorem dX8_first_73 : decode cX8_first 73 = .ok (.iinc 4 1, 3) := by decide +kernel
theorem dX8_first_76 : decode cX8_first 76 = .ok (.goto (-46), 3) := by decide +kernel
theorem dX8_first_79 : decode cX8_first 79 = .ok (.bipush (-5), 2) := by decide +kernel
theorem dX8_first_81 : decode cX8_first 81 = .ok (.ireturn, 1) := by decide +kernel
theorem dX8_worst_0 : decode cX8_worst 0 = .ok (.aload_n 0, 1) := by decide +kernel
theorem dX8_worst_1 : decode cX8_worst 1 = .ok (.iload_n 1, 1) := by decide +kernel
theorem dX8_worst_2 : decode cX8_worst 2 = .ok (.invokevirtual 92, 3) := by decide +kernel
theorem dX8_worst_5 : decode cX8_worst 5 = .ok (.astore 5, 2) := by decide +kernel
theorem dX8_worst_7 : decode cX8_worst 7 = .ok (.aload 5, 2) := by decide +kernel
theorem dX8_worst_9 : decode cX8_worst 9 = .ok (.ifnull 20, 3) := by decide +kernel
theorem dX8_worst_12 : decode cX8_worst 12 = .ok (.iload_n 2, 1) := by decide +kernel
theorem dX8_worst_13 : decode cX8_worst 13 = .ok (.invokestatic 219, 3) := by decide +kernel
theorem dX8_worst_16 : decode cX8_worst 16 = .ok (.ifCond .eq 13, 3) := by decide +kernel
theorem dX8_worst_19 : decode cX8_worst 19 = .ok (.iload 4, 2) := by decide +kernel
theorem dX8_worst_21 : decode cX8_worst 21 = .ok (.iconst 0, 1) := by decide +kernel
theorem dX8_worst_22 : decode cX8_worst 22 = .ok (.iconst 1, 1) := by decide +kernel
theorem dX8_worst_23 : decode cX8_worst 23 = .ok (.invokestatic 67, 3) := by decide +kernel
theorem dX8_worst_26 : decode cX8_worst 26 = .ok (.ifCond .ne 7, 3) := by decide +kernel
theorem dX8_worst_29 : decode cX8_worst 29 = .ok (.sipush (-10001), 3) := by decide +kernel
theorem dX8_worst_32 : decode cX8_worst 32 = .ok (.ireturn, 1) := by decide +kernel
theorem dX8_worst_33 : decode cX8_worst 33 = .ok (.iload_n 3, 1) := by decide +kernel
theorem dX8_worst_34 : decode cX8_worst 34 = .ok (.iconst 0, 1) := by decide +kernel
theorem dX8_worst_35 : decode cX8_worst 35 = .ok (.bipush 60, 2) := by decide +kernel
theorem dX8_worst_37 : decode cX8_worst 37 = .ok (.invokestatic 67, 3) := by decide +kernel
theorem dX8_worst_40 : decode cX8_worst 40 = .ok (.ifCond .ne 7, 3) := by decide +kernel
theorem dX8_worst_43 : decode cX8_worst 43 = .ok (.sipush (-10002), 3) := by decide +kernel
theorem dX8_worst_46 : decode cX8_worst 46 = .ok (.ireturn, 1) := by decide +kernel
theorem dX8_worst_47 : decode cX8_worst 47 = .ok (.aload_n 0, 1) := by decide +kernel
theorem dX8_worst_48 : decode cX8_worst 48 = .ok (.aload 5, 2) := by decide +kernel
theorem dX8_worst_50 : decode cX8_worst 50 = .ok (.invokevirtual 99, 3) := by decide +kernel
theorem dX8_worst_53 : decode cX8_worst 53 = .ok (.iload_n 3, 1) := by decide +kernel
theorem dX8_worst_54 : decode cX8_worst 54 = .ok (.invokevirtual 222, 3) := by decide +kernel
theorem dX8_worst_57 : decode cX8_worst 57 = .ok (.iload 4, 2) := by decide +kernel
theorem dX8_worst_59 : decode cX8_worst 59 = .ok (.ifCond .ne 15, 3) := by decide +kernel
theorem dX8_worst_62 : decode cX8_worst 62 = .ok (.aload_n 0, 1) := by decide +kernel
theorem dX8_worst_63 : decode cX8_worst 63 = .ok (.getfield 46, 3) := by decide +kernel
theorem dX8_worst_66 : decode cX8_worst 66 = .ok (.getfield 225, 3) := by decide +kernel
theorem dX8_worst_69 : decode cX8_worst 69 = .ok (.iload_n 2, 1) := by decide +kernel
theorem dX8_worst_70 : decode cX8_worst 70 = .ok (.iaload, 1) := by decide +kernel
theorem dX8_worst_71 : decode cX8_worst 71 = .ok (.goto 12, 3) := by decide +kernel
theorem dX8_worst_74 : decode cX8_worst 74 = .ok (.aload_n 0, 1) := by decide +kernel
theorem dX8_worst_75 : decode cX8_worst 75 = .ok (.getfield 46, 3) := by decide +kernel
theorem dX8_worst_78 : decode cX8_worst 78 = .ok (.getfield 228, 3) := by decide +kernel
theorem dX8_worst_81 : decode cX8_worst 81 = .ok (.iload_n 2, 1) := by decide +kernel
theorem dX8_worst_82 : decode cX8_worst 82 = .ok (.iaload, 1) := by decide +kernel
theorem dX8_worst_83 : decode cX8_worst 83 = .ok (.ireturn, 1) := by decide +kernel
theorem dX8_off_0 : decode cX8_off 0 = .ok (.aload_n 0, 1) := by decide +kernel
theorem dX8_off_1 : decode cX8_off 1 = .ok (.iload_n 1, 1) := by decide +kernel
theorem dX8_off_2 : decode cX8_off 2 = .ok (.invokevirtual 92, 3) := by decide +kernel
theorem dX8_off_5 : decode cX8_off 5 = .ok (.astore_n 3, 1) := by decide +kernel
theorem dX8_off_6 : decode cX8_off 6 = .ok (.aload_n 3, 1) := by decide +kernel
theorem dX8_off_7 : decode cX8_off 7 = .ok (.ifnull 12, 3) := by decide +kernel
theorem dX8_off_10 : decode cX8_off 10 = .ok (.iload_n 2, 1) := by decide +kernel
theorem dX8_off_11 : decode cX8_off 11 = .ok (.iconst (-1), 1) := by decide +kernel
theorem dX8_off_12 : decode cX8_off 12 = .ok (.iconst 5, 1) := by decide +kernel
theorem dX8_off_13 : decode cX8_off 13 = .ok (.invokestatic 67, 3) := by decide +kernel
theorem dX8_off_16 : decode cX8_off 16 = .ok (.ifCond .ne 5, 3) := by decide +kernel
theorem dX8_off_19 : decode cX8_off 19 = .ok (.iconst (-1), 1) := by decide +kernel
theorem dX8_off_20 : decode cX8_off 20 = .ok (.ireturn, 1) := by decide +kernel
theorem dX8_off_21 : decode cX8_off 21 = .ok (.aload_n 0, 1) := by decide +kernel
theorem dX8_off_22 : decode cX8_off 22 = .ok (.aload_n 3, 1) := by decide +kernel
theorem dX8_off_23 : decode cX8_off 23 = .ok (.invokevirtual 99, 3) := by decide +kernel
theorem dX8_off_26 : decode cX8_off 26 = .ok (.bipush 12, 2) := by decide +kernel
theorem dX8_off_28 : decode cX8_off 28 = .ok (.invokevirtual 222, 3) := by decide +kernel
theorem dX8_off_31 : decode cX8_off 31 = .ok (.iload_n 2, 1) := by decide +kernel
theorem dX8_off_32 : decode cX8_off 32 = .ok (.iconst (-1), 1) := by decide +kernel
theorem dX8_off_33 : decode cX8_off 33 = .ok (.if_icmp .ne 19, 3) := by decide +kernel
theorem dX8_off_36 : decode cX8_off 36 = .ok (.aload_n 0, 1) := by decide +kernel
theorem dX8_off_37 : decode cX8_off 37 = .ok (.getfield 46, 3) := by decide +kernel
theorem dX8_off_40 : decode cX8_off 40 = .ok (.invokevirtual 231, 3) := by decide +kernel
theorem dX8_off_43 : decode cX8_off 43 = .ok (.ifCond .eq 7, 3) := by decide +kernel
theorem dX8_off_46 : decode cX8_off 46 = .ok (.iconst 1, 1) := by decide +kernel
theorem dX8_off_47 : decode cX8_off 47 = .ok (.goto 4, 3) := by decide +kernel
theorem dX8_off_50 : decode cX8_off 50 = .ok (.iconst 0, 1) := by decide +kernel
theorem dX8_off_51 : decode cX8_off 51 = .ok (.ireturn, 1) := by decide +kernel
theorem dX8_off_52 : decode cX8_off 52 = .ok (.aload_n 0, 1) := by decide +kernel
theorem dX8_off_53 : decode cX8_off 53 = .ok (.getfield 46, 3) := by decide +kernel
theorem dX8_off_56 : decode cX8_off 56 = .ok (.iload_n 2, 1) := by decide +kernel
theorem dX8_off_57 : decode cX8_off 57 = .ok (.invokevirtual 235, 3) := by decide +kernel
theorem dX8_off_60 : decode cX8_off 60 = .ok (.ireturn, 1) := by decide +kernel
theorem dX8_cheapest_0 : decode cX8_cheapest 0 = .ok (.aload_n 0, 1) := by decide +kernel
theorem dX8_cheapest_1 : decode cX8_cheapest 1 = .ok (.iload_n 1, 1) := by decide +kernel
theorem dX8_cheapest_2 : decode cX8_cheapest 2 = .ok (.invokevirtual 92, 3) := by decide +kernel
theorem dX8_cheapest_5 : decode cX8_cheapest 5 = .ok (.astore_n 3, 1) := by decide +kernel
theorem dX8_cheapest_6 : decode cX8_cheapest 6 = .ok (.aload_n 3, 1) := by decide +kernel
theorem dX8_cheapest_7 : decode cX8_cheapest 7 = .ok (.ifnull 12, 3) := by decide +kernel
theorem dX8_cheapest_10 : decode cX8_cheapest 10 = .ok (.iload_n 2, 1) := by decide +kernel
theorem dX8_cheapest_11 : decode cX8_cheapest 11 = .ok (.iconst 0, 1) := by decide +kernel
theorem dX8_cheapest_12 : decode cX8_cheapest 12 = .ok (.iconst 1, 1) := by decide +kernel
theorem dX8_cheapest_13 : decode cX8_cheapest 13 = .ok (.invokestatic 67, 3) := by decide +kernel
theorem dX8_cheapest_16 : decode cX8_cheapest 16 = .ok (.ifCond .ne 5, 3) := by decide +kernel
theorem dX8_cheapest_19 : decode cX8_cheapest 19 = .ok (.iconst (-1), 1) := by decide +kernel
theorem dX8_cheapest_20 : decode cX8_cheapest 20 = .ok (.ireturn, 1) := by decide +kernel
theorem dX8_cheapest_21 : decode cX8_cheapest 21 = .ok (.iconst 0, 1) := by decide +kernel
theorem dX8_cheapest_22 : decode cX8_cheapest 22 = .ok (.istore 4, 2) := by decide +kernel
theorem dX8_cheapest_24 : decode cX8_cheapest 24 = .ok (.bipush (-5), 2) := by decide +kernel
theorem dX8_cheapest_26 : decode cX8_cheapest 26 = .ok (.istore 5, 2) := by decide +kernel
theorem dX8_cheapest_28 : decode cX8_cheapest 28 = .ok (.iconst 0, 1) := by decide +kernel
theorem dX8_cheapest_29 : decode cX8_cheapest 29 = .ok (.istore 6, 2) := by decide +kernel
theorem dX8_cheapest_31 : decode cX8_cheapest 31 = .ok (.iload 6, 2) := by decide +kernel
theorem dX8_cheapest_33 : decode cX8_cheapest 33 = .ok (.bipush 16, 2) := by decide +kernel
theorem dX8_cheapest_35 : decode cX8_cheapest 35 = .ok (.if_icmp .ge 47, 3) := by decide +kernel
theorem dX8_cheapest_38 : decode cX8_cheapest 38 = .ok (.aload_n 0, 1) := by decide +kernel
theorem dX8_cheapest_39 : decode cX8_cheapest 39 = .ok (.aload_n 3, 1) := by decide +kernel
theorem dX8_cheapest_40 : decode cX8_cheapest 40 = .ok (.iload 6, 2) := by decide +kernel
theorem dX8_cheapest_42 : decode cX8_cheapest 42 = .ok (.invokevirtual 238, 3) := by decide +kernel
theorem dX8_cheapest_45 : decode cX8_cheapest 45 = .ok (.istore 7, 2) := by decide +kernel
theorem dX8_cheapest_47 : decode cX8_cheapest 47 = .ok (.iload 7, 2) := by decide +kernel
theorem dX8_cheapest_49 : decode cX8_cheapest 49 = .ok (.bipush (-5), 2) := by decide +kernel
theorem dX8_cheapest_51 : decode cX8_cheapest 51 = .ok (.if_icmp .eq 25, 3) := by decide +kernel
theorem dX8_cheapest_54 : decode cX8_cheapest 54 = .ok (.iload 5, 2) := by decide +kernel
theorem dX8_cheapest_56 : decode cX8_cheapest 56 = .ok (.bipush (-5), 2) := by decide +kernel
theorem dX8_cheapest_58 : decode cX8_cheapest 58 = .ok (.if_icmp .eq 10, 3) := by decide +kernel
theorem dX8_cheapest_61 : decode cX8_cheapest 61 = .ok (.iload 7, 2) := by decide +kernel
theorem dX8_cheapest_63 : decode cX8_cheapest 63 = .ok (.iload 5, 2) := by decide +kernel
theorem dX8_cheapest_65 : decode cX8_cheapest 65 = .ok (.if_icmp .ge 11, 3) := by decide +kernel
theorem dX8_cheapest_68 : decode cX8_cheapest 68 = .ok (.iload 6, 2) := by decide +kernel
theorem dX8_cheapest_70 : decode cX8_cheapest 70 = .ok (.istore 4, 2) := by decide +kernel
theorem dX8_cheapest_72 : decode cX8_cheapest 72 = .ok (.iload 7, 2) := by decide +kernel
theorem dX8_cheapest_74 : decode cX8_cheapest 74 = .ok (.istore 5, 2) := by decide +kernel
theorem dX8_cheapest_76 : decode cX8_cheapest 76 = .ok (.iinc 6 1, 3) := by decide +kernel
theorem dX8_cheapest_79 : decode cX8_cheapest 79 = .ok (.goto (-48), 3) := by decide +kernel
theorem dX8_cheapest_82 : decode cX8_cheapest 82 = .ok (.iload_n 2, 1) := by decide +kernel
theorem dX8_cheapest_83 : decode cX8_cheapest 83 = .ok (.ifCond .ne 8, 3) := by decide +kernel
theorem dX8_cheapest_86 : decode cX8_cheapest 86 = .ok (.iload 4, 2) := by decide +kernel
theorem dX8_cheapest_88 : decode cX8_cheapest 88 = .ok (.goto 5, 3) := by decide +kernel
theorem dX8_cheapest_91 : decode cX8_cheapest 91 = .ok (.iload 5, 2) := by decide +kernel
theorem dX8_cheapest_93 : decode cX8_cheapest 93 = .ok (.ireturn, 1) := by decide +kernel
theorem dX8_why_0 : decode cX8_why 0 = .ok (.aload_n 0, 1) := by decide +kernel
theorem dX8_why_1 : decode cX8_why 1 = .ok (.iload_n 1, 1) := by decide +kernel
theorem dX8_why_2 : decode cX8_why 2 = .ok (.invokevirtual 92, 3) := by decide +kernel
theorem dX8_why_5 : decode cX8_why 5 = .ok (.astore_n 3, 1) := by decide +kernel
theorem dX8_why_6 : decode cX8_why 6 = .ok (.aload_n 3, 1) := by decide +kernel
theorem dX8_why_7 : decode cX8_why 7 = .ok (.ifnull 10, 3) := by decide +kernel
theorem dX8_why_10 : decode cX8_why 10 = .ok (.iload_n 2, 1) := by decide +kernel
theorem dX8_why_11 : decode cX8_why 11 = .ok (.invokestatic 219, 3) := by decide +kernel
theorem dX8_why_14 : decode cX8_why 14 = .ok (.ifCond .ne 5, 3) := by decide +kernel
theorem dX8_why_17 : decode cX8_why 17 = .ok (.iconst (-1), 1) := by decide +kernel
theorem dX8_why_18 : decode cX8_why 18 = .ok (.ireturn, 1) := by decide +kernel
theorem dX8_why_19 : decode cX8_why 19 = .ok (.aload_n 0, 1) := by decide +kernel
theorem dX8_why_20 : decode cX8_why 20 = .ok (.aload_n 3, 1) := by decide +kernel
theorem dX8_why_21 : decode cX8_why 21 = .ok (.invokevirtual 99, 3) := by decide +kernel
theorem dX8_why_24 : decode cX8_why 24 = .ok (.astore 4, 2) := by decide +kernel
theorem dX8_why_26 : decode cX8_why 26 = .ok (.aload 4, 2) := by decide +kernel
theorem dX8_why_28 : decode cX8_why 28 = .ok (.iload_n 2, 1) := by decide +kernel
theorem dX8_why_29 : decode cX8_why 29 = .ok (.invokevirtual 103, 3) := by decide +kernel
theorem dX8_why_32 : decode cX8_why 32 = .ok (.ifCond .lt 6, 3) := by decide +kernel
theorem dX8_why_35 : decode cX8_why 35 = .ok (.bipush (-3), 2) := by decide +kernel
theorem dX8_why_37 : decode cX8_why 37 = .ok (.ireturn, 1) := by decide +kernel
theorem dX8_why_38 : decode cX8_why 38 = .ok (.aload_n 3, 1) := by decide +kernel
theorem dX8_why_39 : decode cX8_why 39 = .ok (.getfield 96, 3) := by decide +kernel
theorem dX8_why_42 : decode cX8_why 42 = .ok (.iload_n 2, 1) := by decide +kernel
theorem dX8_why_43 : decode cX8_why 43 = .ok (.iaload, 1) := by decide +kernel
theorem dX8_why_44 : decode cX8_why 44 = .ok (.istore 5, 2) := by decide +kernel
theorem dX8_why_46 : decode cX8_why 46 = .ok (.iconst 0, 1) := by decide +kernel
theorem dX8_why_47 : decode cX8_why 47 = .ok (.istore 6, 2) := by decide +kernel
theorem dX8_why_49 : decode cX8_why 49 = .ok (.iload 6, 2) := by decide +kernel
theorem dX8_why_51 : decode cX8_why 51 = .ok (.iload_n 2, 1) := by decide +kernel
theorem dX8_why_52 : decode cX8_why 52 = .ok (.iconst 0, 1) := by decide +kernel
theorem dX8_why_53 : decode cX8_why 53 = .ok (.aload 4, 2) := by decide +kernel
theorem dX8_why_55 : decode cX8_why 55 = .ok (.getfield 131, 3) := by decide +kernel
theorem dX8_why_58 : decode cX8_why 58 = .ok (.aload 4, 2) := by decide +kernel
theorem dX8_why_60 : decode cX8_why 60 = .ok (.getfield 128, 3) := by decide +kernel
theorem dX8_why_63 : decode cX8_why 63 = .ok (.aload 4, 2) := by decide +kernel
theorem dX8_why_65 : decode cX8_why 65 = .ok (.getfield 242, 3) := by decide +kernel
theorem dX8_why_68 : decode cX8_why 68 = .ok (.aload_n 3, 1) := by decide +kernel
theorem dX8_why_69 : decode cX8_why 69 = .ok (.getfield 122, 3) := by decide +kernel
theorem dX8_why_72 : decode cX8_why 72 = .ok (.invokestatic 243, 3) := by decide +kernel
theorem dX8_why_75 : decode cX8_why 75 = .ok (.iload 5, 2) := by decide +kernel
theorem dX8_why_77 : decode cX8_why 77 = .ok (.if_icmp .gt 7, 3) := by decide +kernel
theorem dX8_why_80 : decode cX8_why 80 = .ok (.iconst 1, 1) := by decide +kernel
theorem dX8_why_81 : decode cX8_why 81 = .ok (.goto 4, 3) := by decide +kernel
theorem dX8_why_84 : decode cX8_why 84 = .ok (.iconst 0, 1) := by decide +kernel
theorem dX8_why_85 : decode cX8_why 85 = .ok (.iadd, 1) := by decide +kernel
theorem dX8_why_86 : decode cX8_why 86 = .ok (.istore 6, 2) := by decide +kernel
theorem dX8_why_88 : decode cX8_why 88 = .ok (.iload 6, 2) := by decide +kernel
theorem dX8_why_90 : decode cX8_why 90 = .ok (.iload_n 2, 1) := by decide +kernel
theorem dX8_why_91 : decode cX8_why 91 = .ok (.aload 4, 2) := by decide +kernel
theorem dX8_why_93 : decode cX8_why 93 = .ok (.getfield 125, 3) := by decide +kernel
theorem dX8_why_96 : decode cX8_why 96 = .ok (.iconst 0, 1) := by decide +kernel
theorem dX8_why_97 : decode cX8_why 97 = .ok (.aload 4, 2) := by decide +kernel
theorem dX8_why_99 : decode cX8_why 99 = .ok (.getfield 128, 3) := by decide +kernel
theorem dX8_why_102 : decode cX8_why 102 = .ok (.aload 4, 2) := by decide +kernel
theorem dX8_why_104 : decode cX8_why 104 = .ok (.getfield 242, 3) := by decide +kernel
theorem dX8_why_107 : decode cX8_why 107 = .ok (.aload_n 3, 1) := by decide +kernel
theorem dX8_why_108 : decode cX8_why 108 = .ok (.getfield 122, 3) := by decide +kernel
theorem dX8_why_111 : decode cX8_why 111 = .ok (.invokestatic 243, 3) := by decide +kernel
theorem dX8_why_114 : decode cX8_why 114 = .ok (.iload 5, 2) := by decide +kernel
theorem dX8_why_116 : decode cX8_why 116 = .ok (.if_icmp .gt 7, 3) := by decide +kernel
theorem dX8_why_119 : decode cX8_why 119 = .ok (.iconst 2, 1) := by decide +kernel
theorem dX8_why_120 : decode cX8_why 120 = .ok (.goto 4, 3) := by decide +kernel
theorem dX8_why_123 : decode cX8_why 123 = .ok (.iconst 0, 1) := by decide +kernel
theorem dX8_why_124 : decode cX8_why 124 = .ok (.iadd, 1) := by decide +kernel
theorem dX8_why_125 : decode cX8_why 125 = .ok (.istore 6, 2) := by decide +kernel
theorem dX8_why_127 : decode cX8_why 127 = .ok (.iload 6, 2) := by decide +kernel
theorem dX8_why_129 : decode cX8_why 129 = .ok (.iload_n 2, 1) := by decide +kernel
theorem dX8_why_130 : decode cX8_why 130 = .ok (.aload 4, 2) := by decide +kernel
theorem dX8_why_132 : decode cX8_why 132 = .ok (.getfield 125, 3) := by decide +kernel
theorem dX8_why_135 : decode cX8_why 135 = .ok (.aload 4, 2) := by decide +kernel
theorem dX8_why_137 : decode cX8_why 137 = .ok (.getfield 131, 3) := by decide +kernel
theorem dX8_why_140 : decode cX8_why 140 = .ok (.aload 4, 2) := by decide +kernel
theorem dX8_why_142 : decode cX8_why 142 = .ok (.getfield 128, 3) := by decide +kernel
theorem dX8_why_145 : decode cX8_why 145 = .ok (.iconst 0, 1) := by decide +kernel
theorem dX8_why_146 : decode cX8_why 146 = .ok (.aload_n 3, 1) := by decide +kernel
theorem dX8_why_147 : decode cX8_why 147 = .ok (.getfield 122, 3) := by decide +kernel
theorem dX8_why_150 : decode cX8_why 150 = .ok (.invokestatic 243, 3) := by decide +kernel
theorem dX8_why_153 : decode cX8_why 153 = .ok (.iload 5, 2) := by decide +kernel
theorem dX8_why_155 : decode cX8_why 155 = .ok (.if_icmp .gt 7, 3) := by decide +kernel
theorem dX8_why_158 : decode cX8_why 158 = .ok (.iconst 4, 1) := by decide +kernel
theorem dX8_why_159 : decode cX8_why 159 = .ok (.goto 4, 3) := by decide +kernel
theorem dX8_why_162 : decode cX8_why 162 = .ok (.iconst 0, 1) := by decide +kernel
theorem dX8_why_163 : decode cX8_why 163 = .ok (.iadd, 1) := by decide +kernel
theorem dX8_why_164 : decode cX8_why 164 = .ok (.istore 6, 2) := by decide +kernel
theorem dX8_why_166 : decode cX8_why 166 = .ok (.iload 6, 2) := by decide +kernel
theorem dX8_why_168 : decode cX8_why 168 = .ok (.iload_n 2, 1) := by decide +kernel
theorem dX8_why_169 : decode cX8_why 169 = .ok (.aload 4, 2) := by decide +kernel
theorem dX8_why_171 : decode cX8_why 171 = .ok (.getfield 125, 3) := by decide +kernel
theorem dX8_why_174 : decode cX8_why 174 = .ok (.aload 4, 2) := by decide +kernel
theorem dX8_why_176 : decode cX8_why 176 = .ok (.getfield 131, 3) := by decide +kernel
theorem dX8_why_179 : decode cX8_why 179 = .ok (.iconst 0, 1) := by decide +kernel
theorem dX8_why_180 : decode cX8_why 180 = .ok (.aload 4, 2) := by decide +kernel
theorem dX8_why_182 : decode cX8_why 182 = .ok (.getfield 242, 3) := by decide +kernel
theorem dX8_why_185 : decode cX8_why 185 = .ok (.aload_n 3, 1) := by decide +kernel
theorem dX8_why_186 : decode cX8_why 186 = .ok (.getfield 122, 3) := by decide +kernel
theorem dX8_why_189 : decode cX8_why 189 = .ok (.invokestatic 243, 3) := by decide +kernel
theorem dX8_why_192 : decode cX8_why 192 = .ok (.iload 5, 2) := by decide +kernel
theorem dX8_why_194 : decode cX8_why 194 = .ok (.if_icmp .gt 8, 3) := by decide +kernel
theorem dX8_why_197 : decode cX8_why 197 = .ok (.bipush 8, 2) := by decide +kernel
theorem dX8_why_199 : decode cX8_why 199 = .ok (.goto 4, 3) := by decide +kernel
theorem dX8_why_202 : decode cX8_why 202 = .ok (.iconst 0, 1) := by decide +kernel
theorem dX8_why_203 : decode cX8_why 203 = .ok (.iadd, 1) := by decide +kernel
theorem dX8_why_204 : decode cX8_why 204 = .ok (.istore 6, 2) := by decide +kernel
theorem dX8_why_206 : decode cX8_why 206 = .ok (.iload 6, 2) := by decide +kernel
theorem dX8_why_208 : decode cX8_why 208 = .ok (.ireturn, 1) := by decide +kernel
theorem dX8_odds_0 : decode cX8_odds 0 = .ok (.aload_n 0, 1) := by decide +kernel
theorem dX8_odds_1 : decode cX8_odds 1 = .ok (.iload_n 1, 1) := by decide +kernel
theorem dX8_odds_2 : decode cX8_odds 2 = .ok (.invokevirtual 92, 3) := by decide +kernel
theorem dX8_odds_5 : decode cX8_odds 5 = .ok (.astore_n 3, 1) := by decide +kernel
theorem dX8_odds_6 : decode cX8_odds 6 = .ok (.aload_n 3, 1) := by decide +kernel
theorem dX8_odds_7 : decode cX8_odds 7 = .ok (.ifnull 12, 3) := by decide +kernel
theorem dX8_odds_10 : decode cX8_odds 10 = .ok (.iload_n 2, 1) := by decide +kernel
theorem dX8_odds_11 : decode cX8_odds 11 = .ok (.iconst 0, 1) := by decide +kernel
theorem dX8_odds_12 : decode cX8_odds 12 = .ok (.iconst 1, 1) := by decide +kernel
theorem dX8_odds_13 : decode cX8_odds 13 = .ok (.invokestatic 67, 3) := by decide +kernel
theorem dX8_odds_16 : decode cX8_odds 16 = .ok (.ifCond .ne 7, 3) := by decide +kernel
theorem dX8_odds_19 : decode cX8_odds 19 = .ok (.ldc2_w 247, 3) := by decide +kernel
theorem dX8_odds_22 : decode cX8_odds 22 = .ok (.lreturn, 1) := by decide +kernel
theorem dX8_odds_23 : decode cX8_odds 23 = .ok (.iconst 0, 1) := by decide +kernel
theorem dX8_odds_24 : decode cX8_odds 24 = .ok (.istore 4, 2) := by decide +kernel
theorem dX8_odds_26 : decode cX8_odds 26 = .ok (.iconst 0, 1) := by decide +kernel
theorem dX8_odds_27 : decode cX8_odds 27 = .ok (.istore 5, 2) := by decide +kernel
theorem dX8_odds_29 : decode cX8_odds 29 = .ok (.iload 5, 2) := by decide +kernel
theorem dX8_odds_31 : decode cX8_odds 31 = .ok (.bipush 12, 2) := by decide +kernel
theorem dX8_odds_33 : decode cX8_odds 33 = .ok (.if_icmp .ge 47, 3) := by decide +kernel
theorem dX8_odds_36 : decode cX8_odds 36 = .ok (.aload_n 0, 1) := by decide +kernel
theorem dX8_odds_37 : decode cX8_odds 37 = .ok (.aload_n 3, 1) := by decide +kernel
theorem dX8_odds_38 : decode cX8_odds 38 = .ok (.invokevirtual 99, 3) := by decide +kernel
theorem dX8_odds_41 : decode cX8_odds 41 = .ok (.aload_n 0, 1) := by decide +kernel
theorem dX8_odds_42 : decode cX8_odds 42 = .ok (.getfield 12, 3) := by decide +kernel
theorem dX8_odds_45 : decode cX8_odds 45 = .ok (.getfield 71, 3) := by decide +kernel
theorem dX8_odds_48 : decode cX8_odds 48 = .ok (.iload 5, 2) := by decide +kernel
theorem dX8_odds_50 : decode cX8_odds 50 = .ok (.iaload, 1) := by decide +kernel
theorem dX8_odds_51 : decode cX8_odds 51 = .ok (.invokevirtual 249, 3) := by decide +kernel
theorem dX8_odds_54 : decode cX8_odds 54 = .ok (.iload 4, 2) := by decide +kernel
theorem dX8_odds_56 : decode cX8_odds 56 = .ok (.aload_n 0, 1) := by decide +kernel
theorem dX8_odds_57 : decode cX8_odds 57 = .ok (.getfield 46, 3) := by decide +kernel
theorem dX8_odds_60 : decode cX8_odds 60 = .ok (.invokevirtual 134, 3) := by decide +kernel
theorem dX8_odds_63 : decode cX8_odds 63 = .ok (.ifCond .eq 7, 3) := by decide +kernel
theorem dX8_odds_66 : decode cX8_odds 66 = .ok (.iconst 1, 1) := by decide +kernel
theorem dX8_odds_67 : decode cX8_odds 67 = .ok (.goto 4, 3) := by decide +kernel
theorem dX8_odds_70 : decode cX8_odds 70 = .ok (.iconst 0, 1) := by decide +kernel
theorem dX8_odds_71 : decode cX8_odds 71 = .ok (.iadd, 1) := by decide +kernel
theorem dX8_odds_72 : decode cX8_odds 72 = .ok (.istore 4, 2) := by decide +kernel
theorem dX8_odds_74 : decode cX8_odds 74 = .ok (.iinc 5 1, 3) := by decide +kernel
theorem dX8_odds_77 : decode cX8_odds 77 = .ok (.goto (-48), 3) := by decide +kernel
theorem dX8_odds_80 : decode cX8_odds 80 = .ok (.iload 4, 2) := by decide +kernel
theorem dX8_odds_82 : decode cX8_odds 82 = .ok (.iload_n 2, 1) := by decide +kernel
theorem dX8_odds_83 : decode cX8_odds 83 = .ok (.invokestatic 252, 3) := by decide +kernel
theorem dX8_odds_86 : decode cX8_odds 86 = .ok (.lreturn, 1) := by decide +kernel
theorem dX8_mean_0 : decode cX8_mean 0 = .ok (.aload_n 0, 1) := by decide +kernel
theorem dX8_mean_1 : decode cX8_mean 1 = .ok (.iload_n 1, 1) := by decide +kernel
theorem dX8_mean_2 : decode cX8_mean 2 = .ok (.invokevirtual 92, 3) := by decide +kernel
theorem dX8_mean_5 : decode cX8_mean 5 = .ok (.astore 4, 2) := by decide +kernel
theorem dX8_mean_7 : decode cX8_mean 7 = .ok (.aload 4, 2) := by decide +kernel
theorem dX8_mean_9 : decode cX8_mean 9 = .ok (.ifnull 21, 3) := by decide +kernel
theorem dX8_mean_12 : decode cX8_mean 12 = .ok (.iload_n 2, 1) := by decide +kernel
theorem dX8_mean_13 : decode cX8_mean 13 = .ok (.iconst 0, 1) := by decide +kernel
theorem dX8_mean_14 : decode cX8_mean 14 = .ok (.iconst 1, 1) := by decide +kernel
theorem dX8_mean_15 : decode cX8_mean 15 = .ok (.invokestatic 67, 3) := by decide +kernel
theorem dX8_mean_18 : decode cX8_mean 18 = .ok (.ifCond .eq 12, 3) := by decide +kernel
theorem dX8_mean_21 : decode cX8_mean 21 = .ok (.iload_n 3, 1) := by decide +kernel
theorem dX8_mean_22 : decode cX8_mean 22 = .ok (.iconst 0, 1) := by decide +kernel
theorem dX8_mean_23 : decode cX8_mean 23 = .ok (.iconst 1, 1) := by decide +kernel
theorem dX8_mean_24 : decode cX8_mean 24 = .ok (.invokestatic 67, 3) := by decide +kernel
theorem dX8_mean_27 : decode cX8_mean 27 = .ok (.ifCond .ne 7, 3) := by decide +kernel
theorem dX8_mean_30 : decode cX8_mean 30 = .ok (.ldc2_w 247, 3) := by decide +kernel
theorem dX8_mean_33 : decode cX8_mean 33 = .ok (.lreturn, 1) := by decide +kernel
theorem dX8_mean_34 : decode cX8_mean 34 = .ok (.iconst 0, 1) := by decide +kernel
theorem dX8_mean_35 : decode cX8_mean 35 = .ok (.istore 5, 2) := by decide +kernel
theorem dX8_mean_37 : decode cX8_mean 37 = .ok (.iconst 0, 1) := by decide +kernel
theorem dX8_mean_38 : decode cX8_mean 38 = .ok (.istore 6, 2) := by decide +kernel
theorem dX8_mean_40 : decode cX8_mean 40 = .ok (.iload 6, 2) := by decide +kernel
theorem dX8_mean_42 : decode cX8_mean 42 = .ok (.bipush 12, 2) := by decide +kernel
theorem dX8_mean_44 : decode cX8_mean 44 = .ok (.if_icmp .ge 45, 3) := by decide +kernel
theorem dX8_mean_47 : decode cX8_mean 47 = .ok (.aload_n 0, 1) := by decide +kernel
theorem dX8_mean_48 : decode cX8_mean 48 = .ok (.aload 4, 2) := by decide +kernel
theorem dX8_mean_50 : decode cX8_mean 50 = .ok (.invokevirtual 99, 3) := by decide +kernel
theorem dX8_mean_53 : decode cX8_mean 53 = .ok (.aload_n 0, 1) := by decide +kernel
theorem dX8_mean_54 : decode cX8_mean 54 = .ok (.getfield 12, 3) := by decide +kernel
theorem dX8_mean_57 : decode cX8_mean 57 = .ok (.getfield 71, 3) := by decide +kernel
theorem dX8_mean_60 : decode cX8_mean 60 = .ok (.iload 6, 2) := by decide +kernel
theorem dX8_mean_62 : decode cX8_mean 62 = .ok (.iaload, 1) := by decide +kernel
theorem dX8_mean_63 : decode cX8_mean 63 = .ok (.invokevirtual 249, 3) := by decide +kernel
theorem dX8_mean_66 : decode cX8_mean 66 = .ok (.iload 5, 2) := by decide +kernel
theorem dX8_mean_68 : decode cX8_mean 68 = .ok (.aload_n 0, 1) := by decide +kernel
theorem dX8_mean_69 : decode cX8_mean 69 = .ok (.getfield 46, 3) := by decide +kernel
theorem dX8_mean_72 : decode cX8_mean 72 = .ok (.getfield 212, 3) := by decide +kernel
theorem dX8_mean_75 : decode cX8_mean 75 = .ok (.getfield 113, 3) := by decide +kernel
theorem dX8_mean_78 : decode cX8_mean 78 = .ok (.iload_n 2, 1) := by decide +kernel
theorem dX8_mean_79 : decode cX8_mean 79 = .ok (.iaload, 1) := by decide +kernel
theorem dX8_mean_80 : decode cX8_mean 80 = .ok (.iadd, 1) := by decide +kernel
theorem dX8_mean_81 : decode cX8_mean 81 = .ok (.istore 5, 2) := by decide +kernel
theorem dX8_mean_83 : decode cX8_mean 83 = .ok (.iinc 6 1, 3) := by decide +kernel
theorem dX8_mean_86 : decode cX8_mean 86 = .ok (.goto (-46), 3) := by decide +kernel
theorem dX8_mean_89 : decode cX8_mean 89 = .ok (.iload 5, 2) := by decide +kernel
theorem dX8_mean_91 : decode cX8_mean 91 = .ok (.iload_n 3, 1) := by decide +kernel
theorem dX8_mean_92 : decode cX8_mean 92 = .ok (.invokestatic 252, 3) := by decide +kernel
theorem dX8_mean_95 : decode cX8_mean 95 = .ok (.lreturn, 1) := by decide +kernel
theorem dX8_changed_0 : decode cX8_changed 0 = .ok (.iload_n 1, 1) := by decide +kernel
theorem dX8_changed_1 : decode cX8_changed 1 = .ok (.iconst 0, 1) := by decide +kernel
theorem dX8_changed_2 : decode cX8_changed 2 = .ok (.iconst 1, 1) := by decide +kernel
theorem dX8_changed_3 : decode cX8_changed 3 = .ok (.invokestatic 67, 3) := by decide +kernel
theorem dX8_changed_6 : decode cX8_changed 6 = .ok (.ifCond .ne 5, 3) := by decide +kernel
theorem dX8_changed_9 : decode cX8_changed 9 = .ok (.iconst (-1), 1) := by decide +kernel
theorem dX8_changed_10 : decode cX8_changed 10 = .ok (.ireturn, 1) := by decide +kernel
theorem dX8_changed_11 : decode cX8_changed 11 = .ok (.iconst 0, 1) := by decide +kernel
theorem dX8_changed_12 : decode cX8_changed 12 = .ok (.istore_n 2, 1) := by decide +kernel
theorem dX8_changed_13 : decode cX8_changed 13 = .ok (.bipush (-5), 2) := by decide +kernel
theorem dX8_changed_15 : decode cX8_changed 15 = .ok (.istore_n 3, 1) := by decide +kernel
theorem dX8_changed_16 : decode cX8_changed 16 = .ok (.iconst 0, 1) := by decide +kernel
theorem dX8_changed_17 : decode cX8_changed 17 = .ok (.istore 4, 2) := by decide +kernel
theorem dX8_changed_19 : decode cX8_changed 19 = .ok (.iload 4, 2) := by decide +kernel
theorem dX8_changed_21 : decode cX8_changed 21 = .ok (.aload_n 0, 1) := by decide +kernel
theorem dX8_changed_22 : decode cX8_changed 22 = .ok (.getfield 12, 3) := by decide +kernel
theorem dX8_changed_25 : decode cX8_changed 25 = .ok (.getfield 79, 3) := by decide +kernel
theorem dX8_changed_28 : decode cX8_changed 28 = .ok (.if_icmp .ge 80, 3) := by decide +kernel
theorem dX8_changed_31 : decode cX8_changed 31 = .ok (.iload 4, 2) := by decide +kernel
theorem dX8_changed_33 : decode cX8_changed 33 = .ok (.iconst 1, 1) := by decide +kernel
theorem dX8_changed_34 : decode cX8_changed 34 = .ok (.iadd, 1) := by decide +kernel
theorem dX8_changed_35 : decode cX8_changed 35 = .ok (.istore 5, 2) := by decide +kernel
theorem dX8_changed_37 : decode cX8_changed 37 = .ok (.iload 5, 2) := by decide +kernel
theorem dX8_changed_39 : decode cX8_changed 39 = .ok (.aload_n 0, 1) := by decide +kernel
theorem dX8_changed_40 : decode cX8_changed 40 = .ok (.getfield 12, 3) := by decide +kernel
theorem dX8_changed_43 : decode cX8_changed 43 = .ok (.getfield 79, 3) := by decide +kernel
theorem dX8_changed_46 : decode cX8_changed 46 = .ok (.if_icmp .ge 56, 3) := by decide +kernel
theorem dX8_changed_49 : decode cX8_changed 49 = .ok (.aload_n 0, 1) := by decide +kernel
theorem dX8_changed_50 : decode cX8_changed 50 = .ok (.aload_n 0, 1) := by decide +kernel
theorem dX8_changed_51 : decode cX8_changed 51 = .ok (.getfield 12, 3) := by decide +kernel
theorem dX8_changed_54 : decode cX8_changed 54 = .ok (.getfield 82, 3) := by decide +kernel
theorem dX8_changed_57 : decode cX8_changed 57 = .ok (.iload 4, 2) := by decide +kernel
theorem dX8_changed_59 : decode cX8_changed 59 = .ok (.aaload, 1) := by decide +kernel
theorem dX8_changed_60 : decode cX8_changed 60 = .ok (.aload_n 0, 1) := by decide +kernel
theorem dX8_changed_61 : decode cX8_changed 61 = .ok (.getfield 12, 3) := by decide +kernel
theorem dX8_changed_64 : decode cX8_changed 64 = .ok (.getfield 82, 3) := by decide +kernel
theorem dX8_changed_67 : decode cX8_changed 67 = .ok (.iload 5, 2) := by decide +kernel
theorem dX8_changed_69 : decode cX8_changed 69 = .ok (.aaload, 1) := by decide +kernel
theorem dX8_changed_70 : decode cX8_changed 70 = .ok (.invokevirtual 256, 3) := by decide +kernel
theorem dX8_changed_73 : decode cX8_changed 73 = .ok (.ifCond .eq 23, 3) := by decide +kernel
theorem dX8_changed_76 : decode cX8_changed 76 = .ok (.iload_n 2, 1) := by decide +kernel
theorem dX8_changed_77 : decode cX8_changed 77 = .ok (.ifCond .ne 14, 3) := by decide +kernel
theorem dX8_changed_80 : decode cX8_changed 80 = .ok (.bipush 10, 2) := by decide +kernel
theorem dX8_changed_82 : decode cX8_changed 82 = .ok (.iload 4, 2) := by decide +kernel
theorem dX8_changed_84 : decode cX8_changed 84 = .ok (.imul, 1) := by decide +kernel
theorem dX8_changed_85 : decode cX8_changed 85 = .ok (.iload 5, 2) := by decide +kernel
theorem dX8_changed_87 : decode cX8_changed 87 = .ok (.iadd, 1) := by decide +kernel
theorem dX8_changed_88 : decode cX8_changed 88 = .ok (.goto 4, 3) := by decide +kernel
theorem dX8_changed_91 : decode cX8_changed 91 = .ok (.iload_n 3, 1) := by decide +kernel
theorem dX8_changed_92 : decode cX8_changed 92 = .ok (.istore_n 3, 1) := by decide +kernel
theorem dX8_changed_93 : decode cX8_changed 93 = .ok (.iinc 2 1, 3) := by decide +kernel
theorem dX8_changed_96 : decode cX8_changed 96 = .ok (.iinc 5 1, 3) := by decide +kernel
theorem dX8_changed_99 : decode cX8_changed 99 = .ok (.goto (-62), 3) := by decide +kernel
theorem dX8_changed_102 : decode cX8_changed 102 = .ok (.iinc 4 1, 3) := by decide +kernel
theorem dX8_changed_105 : decode cX8_changed 105 = .ok (.goto (-86), 3) := by decide +kernel
theorem dX8_changed_108 : decode cX8_changed 108 = .ok (.iload_n 1, 1) := by decide +kernel
theorem dX8_changed_109 : decode cX8_changed 109 = .ok (.ifCond .ne 7, 3) := by decide +kernel
theorem dX8_changed_112 : decode cX8_changed 112 = .ok (.iload_n 2, 1) := by decide +kernel
theorem dX8_changed_113 : decode cX8_changed 113 = .ok (.goto 4, 3) := by decide +kernel
theorem dX8_changed_116 : decode cX8_changed 116 = .ok (.iload_n 3, 1) := by decide +kernel
theorem dX8_changed_117 : decode cX8_changed 117 = .ok (.ireturn, 1) := by decide +kernel
theorem dX8_book_0 : decode cX8_book 0 = .ok (.iload_n 1, 1) := by decide +kernel
theorem dX8_book_1 : decode cX8_book 1 = .ok (.iconst (-1), 1) := by decide +kernel
theorem dX8_book_2 : decode cX8_book 2 = .ok (.if_icmp .ne 13, 3) := by decide +kernel
theorem dX8_book_5 : decode cX8_book 5 = .ok (.aload_n 0, 1) := by decide +kernel
theorem dX8_book_6 : decode cX8_book 6 = .ok (.getfield 12, 3) := by decide +kernel
theorem dX8_book_9 : decode cX8_book 9 = .ok (.iconst 0, 1) := by decide +kernel
theorem dX8_book_10 : decode cX8_book 10 = .ok (.putfield 260, 3) := by decide +kernel
theorem dX8_book_13 : decode cX8_book 13 = .ok (.iconst 0, 1) := by decide +kernel
theorem dX8_book_14 : decode cX8_book 14 = .ok (.ireturn, 1) := by decide +kernel
theorem dX8_book_15 : decode cX8_book 15 = .ok (.iload_n 1, 1) := by decide +kernel
theorem dX8_book_16 : decode cX8_book 16 = .ok (.invokestatic 219, 3) := by decide +kernel
theorem dX8_book_19 : decode cX8_book 19 = .ok (.ifCond .ne 5, 3) := by decide +kernel
theorem dX8_book_22 : decode cX8_book 22 = .ok (.iconst (-1), 1) := by decide +kernel
theorem dX8_book_23 : decode cX8_book 23 = .ok (.ireturn, 1) := by decide +kernel
theorem dX8_book_24 : decode cX8_book 24 = .ok (.iload_n 2, 1) := by decide +kernel
theorem dX8_book_25 : decode cX8_book 25 = .ok (.bipush (-99), 2) := by decide +kernel
theorem dX8_book_27 : decode cX8_book 27 = .ok (.bipush 99, 2) := by decide +kernel
theorem dX8_book_29 : decode cX8_book 29 = .ok (.invokestatic 67, 3) := by decide +kernel
theorem dX8_book_32 : decode cX8_book 32 = .ok (.ifCond .ne 6, 3) := by decide +kernel
theorem dX8_book_35 : decode cX8_book 35 = .ok (.bipush (-2), 2) := by decide +kernel
theorem dX8_book_37 : decode cX8_book 37 = .ok (.ireturn, 1) := by decide +kernel
theorem dX8_book_38 : decode cX8_book 38 = .ok (.aload_n 0, 1) := by decide +kernel
theorem dX8_book_39 : decode cX8_book 39 = .ok (.getfield 12, 3) := by decide +kernel
theorem dX8_book_42 : decode cX8_book 42 = .ok (.getfield 260, 3) := by decide +kernel
theorem dX8_book_45 : decode cX8_book 45 = .ok (.bipush 12, 2) := by decide +kernel
theorem dX8_book_47 : decode cX8_book 47 = .ok (.if_icmp .lt 6, 3) := by decide +kernel
theorem dX8_book_50 : decode cX8_book 50 = .ok (.bipush (-4), 2) := by decide +kernel
theorem dX8_book_52 : decode cX8_book 52 = .ok (.ireturn, 1) := by decide +kernel
theorem dX8_book_53 : decode cX8_book 53 = .ok (.aload_n 0, 1) := by decide +kernel
theorem dX8_book_54 : decode cX8_book 54 = .ok (.getfield 12, 3) := by decide +kernel
theorem dX8_book_57 : decode cX8_book 57 = .ok (.getfield 263, 3) := by decide +kernel
theorem dX8_book_60 : decode cX8_book 60 = .ok (.aload_n 0, 1) := by decide +kernel
theorem dX8_book_61 : decode cX8_book 61 = .ok (.getfield 12, 3) := by decide +kernel
theorem dX8_book_64 : decode cX8_book 64 = .ok (.getfield 260, 3) := by decide +kernel
theorem dX8_book_67 : decode cX8_book 67 = .ok (.iload_n 1, 1) := by decide +kernel
theorem dX8_book_68 : decode cX8_book 68 = .ok (.iastore, 1) := by decide +kernel
theorem dX8_book_69 : decode cX8_book 69 = .ok (.aload_n 0, 1) := by decide +kernel
theorem dX8_book_70 : decode cX8_book 70 = .ok (.getfield 12, 3) := by decide +kernel
theorem dX8_book_73 : decode cX8_book 73 = .ok (.getfield 266, 3) := by decide +kernel
theorem dX8_book_76 : decode cX8_book 76 = .ok (.aload_n 0, 1) := by decide +kernel
theorem dX8_book_77 : decode cX8_book 77 = .ok (.getfield 12, 3) := by decide +kernel
theorem dX8_book_80 : decode cX8_book 80 = .ok (.getfield 260, 3) := by decide +kernel
theorem dX8_book_83 : decode cX8_book 83 = .ok (.iload_n 2, 1) := by decide +kernel
theorem dX8_book_84 : decode cX8_book 84 = .ok (.iastore, 1) := by decide +kernel
theorem dX8_book_85 : decode cX8_book 85 = .ok (.aload_n 0, 1) := by decide +kernel
theorem dX8_book_86 : decode cX8_book 86 = .ok (.getfield 12, 3) := by decide +kernel
theorem dX8_book_89 : decode cX8_book 89 = .ok (.dup, 1) := by decide +kernel
theorem dX8_book_90 : decode cX8_book 90 = .ok (.getfield 260, 3) := by decide +kernel
theorem dX8_book_93 : decode cX8_book 93 = .ok (.iconst 1, 1) := by decide +kernel
theorem dX8_book_94 : decode cX8_book 94 = .ok (.iadd, 1) := by decide +kernel
theorem dX8_book_95 : decode cX8_book 95 = .ok (.putfield 260, 3) := by decide +kernel
theorem dX8_book_98 : decode cX8_book 98 = .ok (.aload_n 0, 1) := by decide +kernel
theorem dX8_book_99 : decode cX8_book 99 = .ok (.getfield 12, 3) := by decide +kernel
theorem dX8_book_102 : decode cX8_book 102 = .ok (.getfield 260, 3) := by decide +kernel
theorem dX8_book_105 : decode cX8_book 105 = .ok (.ireturn, 1) := by decide +kernel
theorem dX8_looked_0 : decode cX8_looked 0 = .ok (.aload_n 0, 1) := by decide +kernel
theorem dX8_looked_1 : decode cX8_looked 1 = .ok (.iload_n 1, 1) := by decide +kernel
theorem dX8_looked_2 : decode cX8_looked 2 = .ok (.invokevirtual 92, 3) := by decide +kernel
theorem dX8_looked_5 : decode cX8_looked 5 = .ok (.astore_n 3, 1) := by decide +kernel
theorem dX8_looked_6 : decode cX8_looked 6 = .ok (.aload_n 3, 1) := by decide +kernel
theorem dX8_looked_7 : decode cX8_looked 7 = .ok (.ifnonnull 5, 3) := by decide +kernel
theorem dX8_looked_10 : decode cX8_looked 10 = .ok (.iconst (-1), 1) := by decide +kernel
theorem dX8_looked_11 : decode cX8_looked 11 = .ok (.ireturn, 1) := by decide +kernel
theorem dX8_looked_12 : decode cX8_looked 12 = .ok (.iload_n 2, 1) := by decide +kernel
theorem dX8_looked_13 : decode cX8_looked 13 = .ok (.iconst 0, 1) := by decide +kernel
theorem dX8_looked_14 : decode cX8_looked 14 = .ok (.bipush 9, 2) := by decide +kernel
theorem dX8_looked_16 : decode cX8_looked 16 = .ok (.invokestatic 67, 3) := by decide +kernel
theorem dX8_looked_19 : decode cX8_looked 19 = .ok (.ifCond .ne 6, 3) := by decide +kernel
theorem dX8_looked_22 : decode cX8_looked 22 = .ok (.bipush (-2), 2) := by decide +kernel
theorem dX8_looked_24 : decode cX8_looked 24 = .ok (.ireturn, 1) := by decide +kernel
theorem dX8_looked_25 : decode cX8_looked 25 = .ok (.aload_n 0, 1) := by decide +kernel
theorem dX8_looked_26 : decode cX8_looked 26 = .ok (.aload_n 3, 1) := by decide +kernel
theorem dX8_looked_27 : decode cX8_looked 27 = .ok (.invokevirtual 99, 3) := by decide +kernel
theorem dX8_looked_30 : decode cX8_looked 30 = .ok (.pop, 1) := by decide +kernel
theorem dX8_looked_31 : decode cX8_looked 31 = .ok (.iconst 0, 1) := by decide +kernel
theorem dX8_looked_32 : decode cX8_looked 32 = .ok (.istore 4, 2) := by decide +kernel
theorem dX8_looked_34 : decode cX8_looked 34 = .ok (.iload 4, 2) := by decide +kernel
theorem dX8_looked_36 : decode cX8_looked 36 = .ok (.aload_n 0, 1) := by decide +kernel
theorem dX8_looked_37 : decode cX8_looked 37 = .ok (.getfield 12, 3) := by decide +kernel
theorem dX8_looked_40 : decode cX8_looked 40 = .ok (.getfield 260, 3) := by decide +kernel
theorem dX8_looked_43 : decode cX8_looked 43 = .ok (.if_icmp .ge 55, 3) := by decide +kernel
theorem dX8_looked_46 : decode cX8_looked 46 = .ok (.aload_n 0, 1) := by decide +kernel
theorem dX8_looked_47 : decode cX8_looked 47 = .ok (.getfield 46, 3) := by decide +kernel
theorem dX8_looked_50 : decode cX8_looked 50 = .ok (.aload_n 0, 1) := by decide +kernel
theorem dX8_looked_51 : decode cX8_looked 51 = .ok (.getfield 12, 3) := by decide +kernel
theorem dX8_looked_54 : decode cX8_looked 54 = .ok (.getfield 263, 3) := by decide +kernel
theorem dX8_looked_57 : decode cX8_looked 57 = .ok (.iload 4, 2) := by decide +kernel
theorem dX8_looked_59 : decode cX8_looked 59 = .ok (.iaload, 1) := by decide +kernel
theorem dX8_looked_60 : decode cX8_looked 60 = .ok (.invokevirtual 103, 3) := by decide +kernel
theorem dX8_looked_63 : decode cX8_looked 63 = .ok (.aload_n 0, 1) := by decide +kernel
theorem dX8_looked_64 : decode cX8_looked 64 = .ok (.getfield 12, 3) := by decide +kernel
theorem dX8_looked_67 : decode cX8_looked 67 = .ok (.getfield 266, 3) := by decide +kernel
theorem dX8_looked_70 : decode cX8_looked 70 = .ok (.iload 4, 2) := by decide +kernel
theorem dX8_looked_72 : decode cX8_looked 72 = .ok (.iaload, 1) := by decide +kernel
theorem dX8_looked_73 : decode cX8_looked 73 = .ok (.isub, 1) := by decide +kernel
theorem dX8_looked_74 : decode cX8_looked 74 = .ok (.invokestatic 269, 3) := by decide +kernel
theorem dX8_looked_77 : decode cX8_looked 77 = .ok (.iload_n 2, 1) := by decide +kernel
theorem dX8_looked_78 : decode cX8_looked 78 = .ok (.if_icmp .le 6, 3) := by decide +kernel
theorem dX8_looked_81 : decode cX8_looked 81 = .ok (.iload 4, 2) := by decide +kernel
theorem dX8_looked_83 : decode cX8_looked 83 = .ok (.ireturn, 1) := by decide +kernel
theorem dX8_looked_84 : decode cX8_looked 84 = .ok (.aload_n 0, 1) := by decide +kernel
theorem dX8_looked_85 : decode cX8_looked 85 = .ok (.getfield 46, 3) := by decide +kernel
theorem dX8_looked_88 : decode cX8_looked 88 = .ok (.iconst 1, 1) := by decide +kernel
theorem dX8_looked_89 : decode cX8_looked 89 = .ok (.invokevirtual 209, 3) := by decide +kernel
theorem dX8_looked_92 : decode cX8_looked 92 = .ok (.iinc 4 1, 3) := by decide +kernel
theorem dX8_looked_95 : decode cX8_looked 95 = .ok (.goto (-61), 3) := by decide +kernel
theorem dX8_looked_98 : decode cX8_looked 98 = .ok (.bipush (-5), 2) := by decide +kernel
theorem dX8_looked_100 : decode cX8_looked 100 = .ok (.ireturn, 1) := by decide +kernel
theorem dX8_judge_0 : decode cX8_judge 0 = .ok (.aload_n 0, 1) := by decide +kernel
theorem dX8_judge_1 : decode cX8_judge 1 = .ok (.iload_n 1, 1) := by decide +kernel
theorem dX8_judge_2 : decode cX8_judge 2 = .ok (.invokevirtual 274, 3) := by decide +kernel
theorem dX8_judge_5 : decode cX8_judge 5 = .ok (.astore 4, 2) := by decide +kernel
theorem dX8_judge_7 : decode cX8_judge 7 = .ok (.aload_n 0, 1) := by decide +kernel
theorem dX8_judge_8 : decode cX8_judge 8 = .ok (.iload_n 3, 1) := by decide +kernel
theorem dX8_judge_9 : decode cX8_judge 9 = .ok (.invokevirtual 92, 3) := by decide +kernel
theorem dX8_judge_12 : decode cX8_judge 12 = .ok (.astore 5, 2) := by decide +kernel
theorem dX8_judge_14 : decode cX8_judge 14 = .ok (.aload 4, 2) := by decide +kernel
theorem dX8_judge_16 : decode cX8_judge 16 = .ok (.ifnull 8, 3) := by decide +kernel
theorem dX8_judge_19 : decode cX8_judge 19 = .ok (.aload 5, 2) := by decide +kernel
theorem dX8_judge_21 : decode cX8_judge 21 = .ok (.ifnonnull 5, 3) := by decide +kernel
theorem dX8_judge_24 : decode cX8_judge 24 = .ok (.iconst (-1), 1) := by decide +kernel
theorem dX8_judge_25 : decode cX8_judge 25 = .ok (.ireturn, 1) := by decide +kernel
theorem dX8_judge_26 : decode cX8_judge 26 = .ok (.aload 4, 2) := by decide +kernel
theorem dX8_judge_28 : decode cX8_judge 28 = .ok (.getfield 278, 3) := by decide +kernel
theorem dX8_judge_31 : decode cX8_judge 31 = .ok (.iconst (-1), 1) := by decide +kernel
theorem dX8_judge_32 : decode cX8_judge 32 = .ok (.if_icmp .eq 15, 3) := by decide +kernel
theorem dX8_judge_35 : decode cX8_judge 35 = .ok (.aload 4, 2) := by decide +kernel
theorem dX8_judge_37 : decode cX8_judge 37 = .ok (.getfield 278, 3) := by decide +kernel
theorem dX8_judge_40 : decode cX8_judge 40 = .ok (.iconst 1, 1) := by decide +kernel
theorem dX8_judge_41 : decode cX8_judge 41 = .ok (.if_icmp .eq 6, 3) := by decide +kernel
theorem dX8_judge_44 : decode cX8_judge 44 = .ok (.bipush (-12), 2) := by decide +kernel
theorem dX8_judge_46 : decode cX8_judge 46 = .ok (.ireturn, 1) := by decide +kernel
theorem dX8_judge_47 : decode cX8_judge 47 = .ok (.aload_n 0, 1) := by decide +kernel
theorem dX8_judge_48 : decode cX8_judge 48 = .ok (.aload 5, 2) := by decide +kernel
theorem dX8_judge_50 : decode cX8_judge 50 = .ok (.invokevirtual 99, 3) := by decide +kernel
theorem dX8_judge_53 : decode cX8_judge 53 = .ok (.pop, 1) := by decide +kernel
theorem dX8_judge_54 : decode cX8_judge 54 = .ok (.iconst 0, 1) := by decide +kernel
theorem dX8_judge_55 : decode cX8_judge 55 = .ok (.istore 6, 2) := by decide +kernel
theorem dX8_judge_57 : decode cX8_judge 57 = .ok (.iload 6, 2) := by decide +kernel
theorem dX8_judge_59 : decode cX8_judge 59 = .ok (.bipush 6, 2) := by decide +kernel
theorem dX8_judge_61 : decode cX8_judge 61 = .ok (.if_icmp .ge 63, 3) := by decide +kernel
theorem dX8_judge_64 : decode cX8_judge 64 = .ok (.aload 4, 2) := by decide +kernel
theorem dX8_judge_66 : decode cX8_judge 66 = .ok (.iload_n 2, 1) := by decide +kernel
theorem dX8_judge_67 : decode cX8_judge 67 = .ok (.invokevirtual 281, 3) := by decide +kernel
theorem dX8_judge_70 : decode cX8_judge 70 = .ok (.ifCond .eq 15, 3) := by decide +kernel
theorem dX8_judge_73 : decode cX8_judge 73 = .ok (.aload 4, 2) := by decide +kernel
theorem dX8_judge_75 : decode cX8_judge 75 = .ok (.iload_n 2, 1) := by decide +kernel
theorem dX8_judge_76 : decode cX8_judge 76 = .ok (.iload 6, 2) := by decide +kernel
theorem dX8_judge_78 : decode cX8_judge 78 = .ok (.iadd, 1) := by decide +kernel
theorem dX8_judge_79 : decode cX8_judge 79 = .ok (.invokevirtual 281, 3) := by decide +kernel
theorem dX8_judge_82 : decode cX8_judge 82 = .ok (.ifCond .ne 9, 3) := by decide +kernel
theorem dX8_judge_85 : decode cX8_judge 85 = .ok (.bipush 100, 2) := by decide +kernel
theorem dX8_judge_87 : decode cX8_judge 87 = .ok (.iload 6, 2) := by decide +kernel
theorem dX8_judge_89 : decode cX8_judge 89 = .ok (.iadd, 1) := by decide +kernel
theorem dX8_judge_90 : decode cX8_judge 90 = .ok (.ireturn, 1) := by decide +kernel
theorem dX8_judge_91 : decode cX8_judge 91 = .ok (.aload 4, 2) := by decide +kernel
theorem dX8_judge_93 : decode cX8_judge 93 = .ok (.getfield 284, 3) := by decide +kernel
theorem dX8_judge_96 : decode cX8_judge 96 = .ok (.iload_n 2, 1) := by decide +kernel
theorem dX8_judge_97 : decode cX8_judge 97 = .ok (.iload 6, 2) := by decide +kernel
theorem dX8_judge_99 : decode cX8_judge 99 = .ok (.iadd, 1) := by decide +kernel
theorem dX8_judge_100 : decode cX8_judge 100 = .ok (.laload, 1) := by decide +kernel
theorem dX8_judge_101 : decode cX8_judge 101 = .ok (.aload_n 0, 1) := by decide +kernel
theorem dX8_judge_102 : decode cX8_judge 102 = .ok (.getfield 46, 3) := by decide +kernel
theorem dX8_judge_105 : decode cX8_judge 105 = .ok (.iload 6, 2) := by decide +kernel
theorem dX8_judge_107 : decode cX8_judge 107 = .ok (.invokevirtual 103, 3) := by decide +kernel
theorem dX8_judge_110 : decode cX8_judge 110 = .ok (.i2l, 1) := by decide +kernel
theorem dX8_judge_111 : decode cX8_judge 111 = .ok (.lcmp, 1) := by decide +kernel
theorem dX8_judge_112 : decode cX8_judge 112 = .ok (.ifCond .eq 6, 3) := by decide +kernel
theorem dX8_judge_115 : decode cX8_judge 115 = .ok (.iload 6, 2) := by decide +kernel
theorem dX8_judge_117 : decode cX8_judge 117 = .ok (.ireturn, 1) := by decide +kernel
theorem dX8_judge_118 : decode cX8_judge 118 = .ok (.iinc 6 1, 3) := by decide +kernel
theorem dX8_judge_121 : decode cX8_judge 121 = .ok (.goto (-64), 3) := by decide +kernel
theorem dX8_judge_124 : decode cX8_judge 124 = .ok (.bipush (-5), 2) := by decide +kernel
theorem dX8_judge_126 : decode cX8_judge 126 = .ok (.ireturn, 1) := by decide +kernel
theorem dX8_image_0 : decode cX8_image 0 = .ok (.aload_n 0, 1) := by decide +kernel
theorem dX8_image_1 : decode cX8_image 1 = .ok (.getfield 18, 3) := by decide +kernel
theorem dX8_image_4 : decode cX8_image 4 = .ok (.aload_n 0, 1) := by decide +kernel
theorem dX8_image_5 : decode cX8_image 5 = .ok (.getfield 12, 3) := by decide +kernel
theorem dX8_image_8 : decode cX8_image 8 = .ok (.invokevirtual 288, 3) := by decide +kernel
theorem dX8_image_11 : decode cX8_image 11 = .ok (.aload_n 0, 1) := by decide +kernel
theorem dX8_image_12 : decode cX8_image 12 = .ok (.iconst 1, 1) := by decide +kernel
theorem dX8_image_13 : decode cX8_image 13 = .ok (.putfield 292, 3) := by decide +kernel
theorem dX8_image_16 : decode cX8_image 16 = .ok (.aload_n 0, 1) := by decide +kernel
theorem dX8_image_17 : decode cX8_image 17 = .ok (.getfield 12, 3) := by decide +kernel
theorem dX8_image_20 : decode cX8_image 20 = .ok (.getfield 79, 3) := by decide +kernel
theorem dX8_image_23 : decode cX8_image 23 = .ok (.ireturn, 1) := by decide +kernel
theorem dX8_undo_0 : decode cX8_undo 0 = .ok (.aload_n 0, 1) := by decide +kernel
theorem dX8_undo_1 : decode cX8_undo 1 = .ok (.getfield 292, 3) := by decide +kernel
theorem dX8_undo_4 : decode cX8_undo 4 = .ok (.ifCond .ne 6, 3) := by decide +kernel
theorem dX8_undo_7 : decode cX8_undo 7 = .ok (.bipush (-3), 2) := by decide +kernel
theorem dX8_undo_9 : decode cX8_undo 9 = .ok (.ireturn, 1) := by decide +kernel
theorem dX8_undo_10 : decode cX8_undo 10 = .ok (.aload_n 0, 1) := by decide +kernel
theorem dX8_undo_11 : decode cX8_undo 11 = .ok (.getfield 12, 3) := by decide +kernel
theorem dX8_undo_14 : decode cX8_undo 14 = .ok (.aload_n 0, 1) := by decide +kernel
theorem dX8_undo_15 : decode cX8_undo 15 = .ok (.getfield 18, 3) := by decide +kernel
theorem dX8_undo_18 : decode cX8_undo 18 = .ok (.invokevirtual 288, 3) := by decide +kernel
theorem dX8_undo_21 : decode cX8_undo 21 = .ok (.aload_n 0, 1) := by decide +kernel
theorem dX8_undo_22 : decode cX8_undo 22 = .ok (.getfield 12, 3) := by decide +kernel
theorem dX8_undo_25 : decode cX8_undo 25 = .ok (.getfield 79, 3) := by decide +kernel
theorem dX8_undo_28 : decode cX8_undo 28 = .ok (.ireturn, 1) := by decide +kernel
theorem dX8_act_0 : decode cX8_act 0 = .ok (.aload_n 0, 1) := by decide +kernel
theorem dX8_act_1 : decode cX8_act 1 = .ok (.getfield 56, 3) := by decide +kernel
theorem dX8_act_4 : decode cX8_act 4 = .ok (.invokevirtual 296, 3) := by decide +kernel
theorem dX8_act_7 : decode cX8_act 7 = .ok (.aload_n 0, 1) := by decide +kernel
theorem dX8_act_8 : decode cX8_act 8 = .ok (.iload_n 1, 1) := by decide +kernel
theorem dX8_act_9 : decode cX8_act 9 = .ok (.invokevirtual 92, 3) := by decide +kernel
theorem dX8_act_12 : decode cX8_act 12 = .ok (.astore 4, 2) := by decide +kernel
theorem dX8_act_14 : decode cX8_act 14 = .ok (.aload 4, 2) := by decide +kernel
theorem dX8_act_16 : decode cX8_act 16 = .ok (.ifnonnull 5, 3) := by decide +kernel
theorem dX8_act_19 : decode cX8_act 19 = .ok (.iconst 0, 1) := by decide +kernel
theorem dX8_act_20 : decode cX8_act 20 = .ok (.ireturn, 1) := by decide +kernel
theorem dX8_act_21 : decode cX8_act 21 = .ok (.aload_n 0, 1) := by decide +kernel
theorem dX8_act_22 : decode cX8_act 22 = .ok (.getfield 56, 3) := by decide +kernel
theorem dX8_act_25 : decode cX8_act 25 = .ok (.aload 4, 2) := by decide +kernel
theorem dX8_act_27 : decode cX8_act 27 = .ok (.iload_n 2, 1) := by decide +kernel
theorem dX8_act_28 : decode cX8_act 28 = .ok (.iload_n 3, 1) := by decide +kernel
theorem dX8_act_29 : decode cX8_act 29 = .ok (.invokevirtual 299, 3) := by decide +kernel
theorem dX8_act_32 : decode cX8_act 32 = .ok (.ireturn, 1) := by decide +kernel
theorem dX8_trace_0 : decode cX8_trace 0 = .ok (.iload_n 1, 1) := by decide +kernel
theorem dX8_trace_1 : decode cX8_trace 1 = .ok (.iconst 0, 1) := by decide +kernel
theorem dX8_trace_2 : decode cX8_trace 2 = .ok (.aload_n 0, 1) := by decide +kernel
theorem dX8_trace_3 : decode cX8_trace 3 = .ok (.getfield 56, 3) := by decide +kernel
theorem dX8_trace_6 : decode cX8_trace 6 = .ok (.invokevirtual 303, 3) := by decide +kernel
theorem dX8_trace_9 : decode cX8_trace 9 = .ok (.iconst 1, 1) := by decide +kernel
theorem dX8_trace_10 : decode cX8_trace 10 = .ok (.isub, 1) := by decide +kernel
theorem dX8_trace_11 : decode cX8_trace 11 = .ok (.invokestatic 67, 3) := by decide +kernel
theorem dX8_trace_14 : decode cX8_trace 14 = .ok (.ifCond .eq 15, 3) := by decide +kernel
theorem dX8_trace_17 : decode cX8_trace 17 = .ok (.aload_n 0, 1) := by decide +kernel
theorem dX8_trace_18 : decode cX8_trace 18 = .ok (.getfield 56, 3) := by decide +kernel
theorem dX8_trace_21 : decode cX8_trace 21 = .ok (.getfield 306, 3) := by decide +kernel
theorem dX8_trace_24 : decode cX8_trace 24 = .ok (.iload_n 1, 1) := by decide +kernel
theorem dX8_trace_25 : decode cX8_trace 25 = .ok (.iaload, 1) := by decide +kernel
theorem dX8_trace_26 : decode cX8_trace 26 = .ok (.goto 4, 3) := by decide +kernel
theorem dX8_trace_29 : decode cX8_trace 29 = .ok (.iconst (-1), 1) := by decide +kernel
theorem dX8_trace_30 : decode cX8_trace 30 = .ok (.ireturn, 1) := by decide +kernel
theorem dX8_taken_0 : decode cX8_taken 0 = .ok (.iload_n 2, 1) := by decide +kernel
theorem dX8_taken_1 : decode cX8_taken 1 = .ok (.iconst 0, 1) := by decide +kernel
theorem dX8_taken_2 : decode cX8_taken 2 = .ok (.bipush 6, 2) := by decide +kernel
theorem dX8_taken_4 : decode cX8_taken 4 = .ok (.invokestatic 67, 3) := by decide +kernel
theorem dX8_taken_7 : decode cX8_taken 7 = .ok (.ifCond .ne 6, 3) := by decide +kernel
theorem dX8_taken_10 : decode cX8_taken 10 = .ok (.bipush (-2), 2) := by decide +kernel
theorem dX8_taken_12 : decode cX8_taken 12 = .ok (.ireturn, 1) := by decide +kernel
theorem dX8_taken_13 : decode cX8_taken 13 = .ok (.aload_n 0, 1) := by decide +kernel
theorem dX8_taken_14 : decode cX8_taken 14 = .ok (.iload_n 1, 1) := by decide +kernel
theorem dX8_taken_15 : decode cX8_taken 15 = .ok (.invokevirtual 92, 3) := by decide +kernel
theorem dX8_taken_18 : decode cX8_taken 18 = .ok (.astore_n 3, 1) := by decide +kernel
theorem dX8_taken_19 : decode cX8_taken 19 = .ok (.aload_n 3, 1) := by decide +kernel
theorem dX8_taken_20 : decode cX8_taken 20 = .ok (.ifnonnull 6, 3) := by decide +kernel
theorem dX8_taken_23 : decode cX8_taken 23 = .ok (.bipush (-11), 2) := by decide +kernel
theorem dX8_taken_25 : decode cX8_taken 25 = .ok (.ireturn, 1) := by decide +kernel
theorem dX8_taken_26 : decode cX8_taken 26 = .ok (.aload_n 3, 1) := by decide +kernel
theorem dX8_taken_27 : decode cX8_taken 27 = .ok (.getfield 107, 3) := by decide +kernel
theorem dX8_taken_30 : decode cX8_taken 30 = .ok (.iload_n 2, 1) := by decide +kernel
theorem dX8_taken_31 : decode cX8_taken 31 = .ok (.invokestatic 309, 3) := by decide +kernel
theorem dX8_taken_34 : decode cX8_taken 34 = .ok (.ifCond .eq 10, 3) := by decide +kernel
theorem dX8_taken_37 : decode cX8_taken 37 = .ok (.aload_n 3, 1) := by decide +kernel
theorem dX8_taken_38 : decode cX8_taken 38 = .ok (.getfield 107, 3) := by decide +kernel
theorem dX8_taken_41 : decode cX8_taken 41 = .ok (.goto 5, 3) := by decide +kernel
theorem dX8_taken_44 : decode cX8_taken 44 = .ok (.bipush (-12), 2) := by decide +kernel
theorem dX8_taken_46 : decode cX8_taken 46 = .ok (.ireturn, 1) := by decide +kernel
theorem dX8_count_0 : decode cX8_count 0 = .ok (.iload_n 1, 1) := by decide +kernel
theorem dX8_count_1 : decode cX8_count 1 = .ok (.tableswitch 72 0 4 #[35, 43, 48, 56, 64], 35) := by decide +kernel
theorem dX8_count_36 : decode cX8_count 36 = .ok (.aload_n 0, 1) := by decide +kernel
theorem dX8_count_37 : decode cX8_count 37 = .ok (.getfield 12, 3) := by decide +kernel
theorem dX8_count_40 : decode cX8_count 40 = .ok (.getfield 79, 3) := by decide +kernel
theorem dX8_count_43 : decode cX8_count 43 = .ok (.ireturn, 1) := by decide +kernel
theorem dX8_count_44 : decode cX8_count 44 = .ok (.aload_n 0, 1) := by decide +kernel
theorem dX8_count_45 : decode cX8_count 45 = .ok (.getfield 148, 3) := by decide +kernel
theorem dX8_count_48 : decode cX8_count 48 = .ok (.ireturn, 1) := by decide +kernel
theorem dX8_count_49 : decode cX8_count 49 = .ok (.aload_n 0, 1) := by decide +kernel
theorem dX8_count_50 : decode cX8_count 50 = .ok (.getfield 12, 3) := by decide +kernel
theorem dX8_count_53 : decode cX8_count 53 = .ok (.getfield 260, 3) := by decide +kernel
theorem dX8_count_56 : decode cX8_count 56 = .ok (.ireturn, 1) := by decide +kernel
theorem dX8_count_57 : decode cX8_count 57 = .ok (.aload_n 0, 1) := by decide +kernel
theorem dX8_count_58 : decode cX8_count 58 = .ok (.getfield 24, 3) := by decide +kernel
theorem dX8_count_61 : decode cX8_count 61 = .ok (.getfield 145, 3) := by decide +kernel
theorem dX8_count_64 : decode cX8_count 64 = .ok (.ireturn, 1) := by decide +kernel
theorem dX8_count_65 : decode cX8_count 65 = .ok (.aload_n 0, 1) := by decide +kernel
theorem dX8_count_66 : decode cX8_count 66 = .ok (.getfield 56, 3) := by decide +kernel
theorem dX8_count_69 : decode cX8_count 69 = .ok (.getfield 312, 3) := by decide +kernel
theorem dX8_count_72 : decode cX8_count 72 = .ok (.ireturn, 1) := by decide +kernel
theorem dX8_count_73 : decode cX8_count 73 = .ok (.bipush (-2), 2) := by decide +kernel
theorem dX8_count_75 : decode cX8_count 75 = .ok (.ireturn, 1) := by decide +kernel
theorem dX8_tape_0 : decode cX8_tape 0 = .ok (.aload_n 0, 1) := by decide +kernel
theorem dX8_tape_1 : decode cX8_tape 1 = .ok (.iload_n 1, 1) := by decide +kernel
theorem dX8_tape_2 : decode cX8_tape 2 = .ok (.invokevirtual 274, 3) := by decide +kernel
theorem dX8_tape_5 : decode cX8_tape 5 = .ok (.astore 4, 2) := by decide +kernel
theorem dX8_tape_7 : decode cX8_tape 7 = .ok (.aload 4, 2) := by decide +kernel
theorem dX8_tape_9 : decode cX8_tape 9 = .ok (.ifnonnull 5, 3) := by decide +kernel
theorem dX8_tape_12 : decode cX8_tape 12 = .ok (.iconst (-1), 1) := by decide +kernel
theorem dX8_tape_13 : decode cX8_tape 13 = .ok (.ireturn, 1) := by decide +kernel
theorem dX8_tape_14 : decode cX8_tape 14 = .ok (.iload_n 2, 1) := by decide +kernel
theorem dX8_tape_15 : decode cX8_tape 15 = .ok (.iconst (-1), 1) := by decide +kernel
theorem dX8_tape_16 : decode cX8_tape 16 = .ok (.if_icmp .ne 12, 3) := by decide +kernel
theorem dX8_tape_19 : decode cX8_tape 19 = .ok (.aload 4, 2) := by decide +kernel
theorem dX8_tape_21 : decode cX8_tape 21 = .ok (.iload_n 2, 1) := by decide +kernel
theorem dX8_tape_22 : decode cX8_tape 22 = .ok (.iconst 0, 1) := by decide +kernel
theorem dX8_tape_23 : decode cX8_tape 23 = .ok (.invokevirtual 315, 3) := by decide +kernel
theorem dX8_tape_26 : decode cX8_tape 26 = .ok (.iconst 1, 1) := by decide +kernel
theorem dX8_tape_27 : decode cX8_tape 27 = .ok (.ireturn, 1) := by decide +kernel
theorem dX8_tape_28 : decode cX8_tape 28 = .ok (.iload_n 2, 1) := by decide +kernel
theorem dX8_tape_29 : decode cX8_tape 29 = .ok (.iconst 0, 1) := by decide +kernel
theorem dX8_tape_30 : decode cX8_tape 30 = .ok (.iconst 4, 1) := by decide +kernel
theorem dX8_tape_31 : decode cX8_tape 31 = .ok (.invokestatic 67, 3) := by decide +kernel
theorem dX8_tape_34 : decode cX8_tape 34 = .ok (.ifCond .eq 9, 3) := by decide +kernel
theorem dX8_tape_37 : decode cX8_tape 37 = .ok (.iload_n 3, 1) := by decide +kernel
theorem dX8_tape_38 : decode cX8_tape 38 = .ok (.bipush 60, 2) := by decide +kernel
theorem dX8_tape_40 : decode cX8_tape 40 = .ok (.if_icmp .le 6, 3) := by decide +kernel
theorem dX8_tape_43 : decode cX8_tape 43 = .ok (.bipush (-2), 2) := by decide +kernel
theorem dX8_tape_45 : decode cX8_tape 45 = .ok (.ireturn, 1) := by decide +kernel
theorem dX8_tape_46 : decode cX8_tape 46 = .ok (.iload_n 3, 1) := by decide +kernel
theorem dX8_tape_47 : decode cX8_tape 47 = .ok (.ifCond .ge 6, 3) := by decide +kernel
theorem dX8_tape_50 : decode cX8_tape 50 = .ok (.bipush (-14), 2) := by decide +kernel
theorem dX8_tape_52 : decode cX8_tape 52 = .ok (.ireturn, 1) := by decide +kernel
theorem dX8_tape_53 : decode cX8_tape 53 = .ok (.aload 4, 2) := by decide +kernel
theorem dX8_tape_55 : decode cX8_tape 55 = .ok (.iload_n 2, 1) := by decide +kernel
theorem dX8_tape_56 : decode cX8_tape 56 = .ok (.iload_n 3, 1) := by decide +kernel
theorem dX8_tape_57 : decode cX8_tape 57 = .ok (.invokevirtual 315, 3) := by decide +kernel
theorem dX8_tape_60 : decode cX8_tape 60 = .ok (.iconst 1, 1) := by decide +kernel
theorem dX8_tape_61 : decode cX8_tape 61 = .ok (.ireturn, 1) := by decide +kernel
theorem dX8_item_0 : decode cX8_item 0 = .ok (.aload_n 0, 1) := by decide +kernel
theorem dX8_item_1 : decode cX8_item 1 = .ok (.iload_n 1, 1) := by decide +kernel
theorem dX8_item_2 : decode cX8_item 2 = .ok (.invokevirtual 274, 3) := by decide +kernel
theorem dX8_item_5 : decode cX8_item 5 = .ok (.astore 5, 2) := by decide +kernel
theorem dX8_item_7 : decode cX8_item 7 = .ok (.aload 5, 2) := by decide +kernel
theorem dX8_item_9 : decode cX8_item 9 = .ok (.ifnonnull 5, 3) := by decide +kernel
theorem dX8_item_12 : decode cX8_item 12 = .ok (.iconst (-1), 1) := by decide +kernel
theorem dX8_item_13 : decode cX8_item 13 = .ok (.ireturn, 1) := by decide +kernel
theorem dX8_item_14 : decode cX8_item 14 = .ok (.aload 5, 2) := by decide +kernel
theorem dX8_item_16 : decode cX8_item 16 = .ok (.getfield 278, 3) := by decide +kernel
theorem dX8_item_19 : decode cX8_item 19 = .ok (.iconst (-1), 1) := by decide +kernel
theorem dX8_item_20 : decode cX8_item 20 = .ok (.if_icmp .ne 6, 3) := by decide +kernel
theorem dX8_item_23 : decode cX8_item 23 = .ok (.bipush (-11), 2) := by decide +kernel
theorem dX8_item_25 : decode cX8_item 25 = .ok (.ireturn, 1) := by decide +kernel
theorem dX8_item_26 : decode cX8_item 26 = .ok (.aload 5, 2) := by decide +kernel
theorem dX8_item_28 : decode cX8_item 28 = .ok (.iload_n 2, 1) := by decide +kernel
theorem dX8_item_29 : decode cX8_item 29 = .ok (.invokevirtual 281, 3) := by decide +kernel
theorem dX8_item_32 : decode cX8_item 32 = .ok (.ifCond .ne 6, 3) := by decide +kernel
theorem dX8_item_35 : decode cX8_item 35 = .ok (.bipush (-13), 2) := by decide +kernel
theorem dX8_item_37 : decode cX8_item 37 = .ok (.ireturn, 1) := by decide +kernel
theorem dX8_item_38 : decode cX8_item 38 = .ok (.aload 5, 2) := by decide +kernel
theorem dX8_item_40 : decode cX8_item 40 = .ok (.getfield 284, 3) := by decide +kernel
theorem dX8_item_43 : decode cX8_item 43 = .ok (.iload_n 2, 1) := by decide +kernel
theorem dX8_item_44 : decode cX8_item 44 = .ok (.aload 5, 2) := by decide +kernel
theorem dX8_item_46 : decode cX8_item 46 = .ok (.lload_n 3, 1) := by decide +kernel
theorem dX8_item_47 : decode cX8_item 47 = .ok (.invokevirtual 319, 3) := by decide +kernel
theorem dX8_item_50 : decode cX8_item 50 = .ok (.lastore, 1) := by decide +kernel
theorem dX8_item_51 : decode cX8_item 51 = .ok (.iconst 1, 1) := by decide +kernel
theorem dX8_item_52 : decode cX8_item 52 = .ok (.ireturn, 1) := by decide +kernel
theorem dX8_read_0 : decode cX8_read 0 = .ok (.aload_n 0, 1) := by decide +kernel
theorem dX8_read_1 : decode cX8_read 1 = .ok (.iload_n 1, 1) := by decide +kernel
theorem dX8_read_2 : decode cX8_read 2 = .ok (.invokevirtual 274, 3) := by decide +kernel
theorem dX8_read_5 : decode cX8_read 5 = .ok (.astore_n 3, 1) := by decide +kernel
theorem dX8_read_6 : decode cX8_read 6 = .ok (.aload_n 3, 1) := by decide +kernel
theorem dX8_read_7 : decode cX8_read 7 = .ok (.ifnull 20, 3) := by decide +kernel
theorem dX8_read_10 : decode cX8_read 10 = .ok (.aload_n 3, 1) := by decide +kernel
theorem dX8_read_11 : decode cX8_read 11 = .ok (.iload_n 2, 1) := by decide +kernel
theorem dX8_read_12 : decode cX8_read 12 = .ok (.invokevirtual 281, 3) := by decide +kernel
theorem dX8_read_15 : decode cX8_read 15 = .ok (.ifCond .eq 12, 3) := by decide +kernel
theorem dX8_read_18 : decode cX8_read 18 = .ok (.aload_n 3, 1) := by decide +kernel
theorem dX8_read_19 : decode cX8_read 19 = .ok (.getfield 284, 3) := by decide +kernel
theorem dX8_read_22 : decode cX8_read 22 = .ok (.iload_n 2, 1) := by decide +kernel
theorem dX8_read_23 : decode cX8_read 23 = .ok (.laload, 1) := by decide +kernel
theorem dX8_read_24 : decode cX8_read 24 = .ok (.goto 6, 3) := by decide +kernel
theorem dX8_read_27 : decode cX8_read 27 = .ok (.ldc2_w 247, 3) := by decide +kernel
theorem dX8_read_30 : decode cX8_read 30 = .ok (.lreturn, 1) := by decide +kernel
theorem dX8_shift_0 : decode cX8_shift 0 = .ok (.aload_n 0, 1) := by decide +kernel
theorem dX8_shift_1 : decode cX8_shift 1 = .ok (.iload_n 1, 1) := by decide +kernel
theorem dX8_shift_2 : decode cX8_shift 2 = .ok (.invokevirtual 274, 3) := by decide +kernel
theorem dX8_shift_5 : decode cX8_shift 5 = .ok (.astore 6, 2) := by decide +kernel
theorem dX8_shift_7 : decode cX8_shift 7 = .ok (.aload_n 0, 1) := by decide +kernel
theorem dX8_shift_8 : decode cX8_shift 8 = .ok (.iload_n 3, 1) := by decide +kernel
theorem dX8_shift_9 : decode cX8_shift 9 = .ok (.invokevirtual 274, 3) := by decide +kernel
theorem dX8_shift_12 : decode cX8_shift 12 = .ok (.astore 7, 2) := by decide +kernel
theorem dX8_shift_14 : decode cX8_shift 14 = .ok (.aload 6, 2) := by decide +kernel
theorem dX8_shift_16 : decode cX8_shift 16 = .ok (.ifnull 8, 3) := by decide +kernel
theorem dX8_shift_19 : decode cX8_shift 19 = .ok (.aload 7, 2) := by decide +kernel
theorem dX8_shift_21 : decode cX8_shift 21 = .ok (.ifnonnull 5, 3) := by decide +kernel
theorem dX8_shift_24 : decode cX8_shift 24 = .ok (.iconst (-1), 1) := by decide +kernel
theorem dX8_shift_25 : decode cX8_shift 25 = .ok (.ireturn, 1) := by decide +kernel
theorem dX8_shift_26 : decode cX8_shift 26 = .ok (.aload 6, 2) := by decide +kernel
theorem dX8_shift_28 : decode cX8_shift 28 = .ok (.getfield 278, 3) := by decide +kernel
theorem dX8_shift_31 : decode cX8_shift 31 = .ok (.iconst (-1), 1) := by decide +kernel
theorem dX8_shift_32 : decode cX8_shift 32 = .ok (.if_icmp .eq 12, 3) := by decide +kernel
theorem dX8_shift_35 : decode cX8_shift 35 = .ok (.aload 7, 2) := by decide +kernel
theorem dX8_shift_37 : decode cX8_shift 37 = .ok (.getfield 278, 3) := by decide +kernel
theorem dX8_shift_40 : decode cX8_shift 40 = .ok (.iconst (-1), 1) := by decide +kernel
theorem dX8_shift_41 : decode cX8_shift 41 = .ok (.if_icmp .ne 6, 3) := by decide +kernel
theorem dX8_shift_44 : decode cX8_shift 44 = .ok (.bipush (-11), 2) := by decide +kernel
theorem dX8_shift_46 : decode cX8_shift 46 = .ok (.ireturn, 1) := by decide +kernel
theorem dX8_shift_47 : decode cX8_shift 47 = .ok (.aload 6, 2) := by decide +kernel
theorem dX8_shift_49 : decode cX8_shift 49 = .ok (.getfield 278, 3) := by decide +kernel
theorem dX8_shift_52 : decode cX8_shift 52 = .ok (.aload 7, 2) := by decide +kernel
theorem dX8_shift_54 : decode cX8_shift 54 = .ok (.getfield 278, 3) := by decide +kernel
theorem dX8_shift_57 : decode cX8_shift 57 = .ok (.if_icmp .eq 6, 3) := by decide +kernel
theorem dX8_shift_60 : decode cX8_shift 60 = .ok (.bipush (-12), 2) := by decide +kernel
theorem dX8_shift_62 : decode cX8_shift 62 = .ok (.ireturn, 1) := by decide +kernel
theorem dX8_shift_63 : decode cX8_shift 63 = .ok (.aload 6, 2) := by decide +kernel
theorem dX8_shift_65 : decode cX8_shift 65 = .ok (.iload_n 2, 1) := by decide +kernel
theorem dX8_shift_66 : decode cX8_shift 66 = .ok (.iload 5, 2) := by decide +kernel
theorem dX8_shift_68 : decode cX8_shift 68 = .ok (.invokevirtual 323, 3) := by decide +kernel
theorem dX8_shift_71 : decode cX8_shift 71 = .ok (.ifCond .eq 15, 3) := by decide +kernel
theorem dX8_shift_74 : decode cX8_shift 74 = .ok (.aload 7, 2) := by decide +kernel
theorem dX8_shift_76 : decode cX8_shift 76 = .ok (.iload 4, 2) := by decide +kernel
theorem dX8_shift_78 : decode cX8_shift 78 = .ok (.iload 5, 2) := by decide +kernel
theorem dX8_shift_80 : decode cX8_shift 80 = .ok (.invokevirtual 323, 3) := by decide +kernel
theorem dX8_shift_83 : decode cX8_shift 83 = .ok (.ifCond .ne 6, 3) := by decide +kernel
theorem dX8_shift_86 : decode cX8_shift 86 = .ok (.bipush (-13), 2) := by decide +kernel
theorem dX8_shift_88 : decode cX8_shift 88 = .ok (.ireturn, 1) := by decide +kernel
theorem dX8_shift_89 : decode cX8_shift 89 = .ok (.aload 6, 2) := by decide +kernel
theorem dX8_shift_91 : decode cX8_shift 91 = .ok (.getfield 284, 3) := by decide +kernel
theorem dX8_shift_94 : decode cX8_shift 94 = .ok (.iload_n 2, 1) := by decide +kernel
theorem dX8_shift_95 : decode cX8_shift 95 = .ok (.aload 7, 2) := by decide +kernel
theorem dX8_shift_97 : decode cX8_shift 97 = .ok (.getfield 284, 3) := by decide +kernel
theorem dX8_shift_100 : decode cX8_shift 100 = .ok (.iload 4, 2) := by decide +kernel
theorem dX8_shift_102 : decode cX8_shift 102 = .ok (.iload 5, 2) := by decide +kernel
theorem dX8_shift_104 : decode cX8_shift 104 = .ok (.invokestatic 326, 3) := by decide +kernel
theorem dX8_shift_107 : decode cX8_shift 107 = .ok (.iload 5, 2) := by decide +kernel
theorem dX8_shift_109 : decode cX8_shift 109 = .ok (.ireturn, 1) := by decide +kernel
theorem dX8_within_0 : decode cX8_within 0 = .ok (.iload_n 1, 1) := by decide +kernel
theorem dX8_within_1 : decode cX8_within 1 = .ok (.iload_n 0, 1) := by decide +kernel
theorem dX8_within_2 : decode cX8_within 2 = .ok (.if_icmp .gt 12, 3) := by decide +kernel
theorem dX8_within_5 : decode cX8_within 5 = .ok (.iload_n 0, 1) := by decide +kernel
theorem dX8_within_6 : decode cX8_within 6 = .ok (.iload_n 2, 1) := by decide +kernel
theorem dX8_within_7 : decode cX8_within 7 = .ok (.if_icmp .gt 7, 3) := by decide +kernel
theorem dX8_within_10 : decode cX8_within 10 = .ok (.iconst 1, 1) := by decide +kernel
theorem dX8_within_11 : decode cX8_within 11 = .ok (.goto 4, 3) := by decide +kernel
theorem dX8_within_14 : decode cX8_within 14 = .ok (.iconst 0, 1) := by decide +kernel
theorem dX8_within_15 : decode cX8_within 15 = .ok (.ireturn, 1) := by decide +kernel
theorem dX8_isSpot_0 : decode cX8_isSpot 0 = .ok (.iload_n 0, 1) := by decide +kernel
theorem dX8_isSpot_1 : decode cX8_isSpot 1 = .ok (.iconst 0, 1) := by decide +kernel
theorem dX8_isSpot_2 : decode cX8_isSpot 2 = .ok (.iconst 5, 1) := by decide +kernel
theorem dX8_isSpot_3 : decode cX8_isSpot 3 = .ok (.invokestatic 67, 3) := by decide +kernel
theorem dX8_isSpot_6 : decode cX8_isSpot 6 = .ok (.ireturn, 1) := by decide +kernel
theorem dX8_isPlaceOfMend_0 : decode cX8_isPlaceOfMend 0 = .ok (.iload_n 0, 1) := by decide +kernel
theorem dX8_isPlaceOfMend_1 : decode cX8_isPlaceOfMend 1 = .ok (.ifCond .eq 8, 3) := by decide +kernel
theorem dX8_isPlaceOfMend_4 : decode cX8_isPlaceOfMend 4 = .ok (.iload_n 0, 1) := by decide +kernel
theorem dX8_isPlaceOfMend_5 : decode cX8_isPlaceOfMend 5 = .ok (.iconst 4, 1) := by decide +kernel
theorem dX8_isPlaceOfMend_6 : decode cX8_isPlaceOfMend 6 = .ok (.if_icmp .ne 8, 3) := by decide +kernel
theorem dX8_isPlaceOfMend_9 : decode cX8_isPlaceOfMend 9 = .ok (.iload_n 1, 1) := by decide +kernel
theorem dX8_isPlaceOfMend_10 : decode cX8_isPlaceOfMend 10 = .ok (.invokestatic 219, 3) := by decide +kernel
theorem dX8_isPlaceOfMend_13 : decode cX8_isPlaceOfMend 13 = .ok (.ireturn, 1) := by decide +kernel
theorem dX8_isPlaceOfMend_14 : decode cX8_isPlaceOfMend 14 = .ok (.iload_n 0, 1) := by decide +kernel
theorem dX8_isPlaceOfMend_15 : decode cX8_isPlaceOfMend 15 = .ok (.iconst 3, 1) := by decide +kernel
theorem dX8_isPlaceOfMend_16 : decode cX8_isPlaceOfMend 16 = .ok (.if_icmp .ne 12, 3) := by decide +kernel
theorem dX8_isPlaceOfMend_19 : decode cX8_isPlaceOfMend 19 = .ok (.iload_n 1, 1) := by decide +kernel
theorem dX8_isPlaceOfMend_20 : decode cX8_isPlaceOfMend 20 = .ok (.iconst 0, 1) := by decide +kernel
theorem dX8_isPlaceOfMend_21 : decode cX8_isPlaceOfMend 21 = .ok (.iconst 1, 1) := by decide +kernel
theorem dX8_isPlaceOfMend_22 : decode cX8_isPlaceOfMend 22 = .ok (.invokestatic 67, 3) := by decide +kernel
theorem dX8_isPlaceOfMend_25 : decode cX8_isPlaceOfMend 25 = .ok (.ifCond .eq 7, 3) := by decide +kernel
theorem dX8_isPlaceOfMend_28 : decode cX8_isPlaceOfMend 28 = .ok (.iconst 1, 1) := by decide +kernel
theorem dX8_isPlaceOfMend_29 : decode cX8_isPlaceOfMend 29 = .ok (.goto 4, 3) := by decide +kernel
theorem dX8_isPlaceOfMend_32 : decode cX8_isPlaceOfMend 32 = .ok (.iconst 0, 1) := by decide +kernel
theorem dX8_isPlaceOfMend_33 : decode cX8_isPlaceOfMend 33 = .ok (.ireturn, 1) := by decide +kernel
theorem dX8_isUnder_0 : decode cX8_isUnder 0 = .ok (.iload_n 0, 1) := by decide +kernel
theorem dX8_isUnder_1 : decode cX8_isUnder 1 = .ok (.istore_n 2, 1) := by decide +kernel
theorem dX8_isUnder_2 : decode cX8_isUnder 2 = .ok (.iconst 0, 1) := by decide +kernel
theorem dX8_isUnder_3 : decode cX8_isUnder 3 = .ok (.istore_n 3, 1) := by decide +kernel
theorem dX8_isUnder_4 : decode cX8_isUnder 4 = .ok (.iload_n 3, 1) := by decide +kernel
theorem dX8_isUnder_5 : decode cX8_isUnder 5 = .ok (.bipush 7, 2) := by decide +kernel
theorem dX8_isUnder_7 : decode cX8_isUnder 7 = .ok (.if_icmp .ge 32, 3) := by decide +kernel
theorem dX8_isUnder_10 : decode cX8_isUnder 10 = .ok (.iload_n 2, 1) := by decide +kernel
theorem dX8_isUnder_11 : decode cX8_isUnder 11 = .ok (.iconst 0, 1) := by decide +kernel
theorem dX8_isUnder_12 : decode cX8_isUnder 12 = .ok (.bipush 6, 2) := by decide +kernel
theorem dX8_isUnder_14 : decode cX8_isUnder 14 = .ok (.invokestatic 67, 3) := by decide +kernel
theorem dX8_isUnder_17 : decode cX8_isUnder 17 = .ok (.ifCond .eq 22, 3) := by decide +kernel
theorem dX8_isUnder_20 : decode cX8_isUnder 20 = .ok (.iload_n 2, 1) := by decide +kernel
theorem dX8_isUnder_21 : decode cX8_isUnder 21 = .ok (.iload_n 1, 1) := by decide +kernel
theorem dX8_isUnder_22 : decode cX8_isUnder 22 = .ok (.if_icmp .ne 5, 3) := by decide +kernel
theorem dX8_isUnder_25 : decode cX8_isUnder 25 = .ok (.iconst 1, 1) := by decide +kernel
theorem dX8_isUnder_26 : decode cX8_isUnder 26 = .ok (.ireturn, 1) := by decide +kernel
theorem dX8_isUnder_27 : decode cX8_isUnder 27 = .ok (.getstatic 332, 3) := by decide +kernel
theorem dX8_isUnder_30 : decode cX8_isUnder 30 = .ok (.iload_n 2, 1) := by decide +kernel
theorem dX8_isUnder_31 : decode cX8_isUnder 31 = .ok (.iaload, 1) := by decide +kernel
theorem dX8_isUnder_32 : decode cX8_isUnder 32 = .ok (.istore_n 2, 1) := by decide +kernel
theorem dX8_isUnder_33 : decode cX8_isUnder 33 = .ok (.iinc 3 1, 3) := by decide +kernel
theorem dX8_isUnder_36 : decode cX8_isUnder 36 = .ok (.goto (-32), 3) := by decide +kernel
theorem dX8_isUnder_39 : decode cX8_isUnder 39 = .ok (.iconst 0, 1) := by decide +kernel
theorem dX8_isUnder_40 : decode cX8_isUnder 40 = .ok (.ireturn, 1) := by decide +kernel
theorem dX8_sunk_0 : decode cX8_sunk 0 = .ok (.iload_n 1, 1) := by decide +kernel
theorem dX8_sunk_1 : decode cX8_sunk 1 = .ok (.bipush 12, 2) := by decide +kernel
theorem dX8_sunk_3 : decode cX8_sunk 3 = .ok (.irem, 1) := by decide +kernel
theorem dX8_sunk_4 : decode cX8_sunk 4 = .ok (.ifCond .ne 14, 3) := by decide +kernel
theorem dX8_sunk_7 : decode cX8_sunk 7 = .ok (.bipush 20, 2) := by decide +kernel
theorem dX8_sunk_9 : decode cX8_sunk 9 = .ok (.iload_n 0, 1) := by decide +kernel
theorem dX8_sunk_10 : decode cX8_sunk 10 = .ok (.iload_n 2, 1) := by decide +kernel
theorem dX8_sunk_11 : decode cX8_sunk 11 = .ok (.iadd, 1) := by decide +kernel
theorem dX8_sunk_12 : decode cX8_sunk 12 = .ok (.invokestatic 335, 3) := by decide +kernel
theorem dX8_sunk_15 : decode cX8_sunk 15 = .ok (.goto 4, 3) := by decide +kernel
theorem dX8_sunk_18 : decode cX8_sunk 18 = .ok (.iload_n 0, 1) := by decide +kernel
theorem dX8_sunk_19 : decode cX8_sunk 19 = .ok (.ireturn, 1) := by decide +kernel
theorem dX8_takenUp_0 : decode cX8_takenUp 0 = .ok (.iload_n 0, 1) := by decide +kernel
theorem dX8_takenUp_1 : decode cX8_takenUp 1 = .ok (.tableswitch 57 0 4 #[35, 38, 43, 49, 55], 35) := by decide +kernel
theorem dX8_takenUp_36 : decode cX8_takenUp 36 = .ok (.iload 4, 2) := by decide +kernel
theorem dX8_takenUp_38 : decode cX8_takenUp 38 = .ok (.ireturn, 1) := by decide +kernel
theorem dX8_takenUp_39 : decode cX8_takenUp 39 = .ok (.iload 4, 2) := by decide +kernel
theorem dX8_takenUp_41 : decode cX8_takenUp 41 = .ok (.iload_n 2, 1) := by decide +kernel
theorem dX8_takenUp_42 : decode cX8_takenUp 42 = .ok (.isub, 1) := by decide +kernel
theorem dX8_takenUp_43 : decode cX8_takenUp 43 = .ok (.ireturn, 1) := by decide +kernel
theorem dX8_takenUp_44 : decode cX8_takenUp 44 = .ok (.iload_n 1, 1) := by decide +kernel
theorem dX8_takenUp_45 : decode cX8_takenUp 45 = .ok (.iload_n 2, 1) := by decide +kernel
theorem dX8_takenUp_46 : decode cX8_takenUp 46 = .ok (.iadd, 1) := by decide +kernel
theorem dX8_takenUp_47 : decode cX8_takenUp 47 = .ok (.iload_n 3, 1) := by decide +kernel
theorem dX8_takenUp_48 : decode cX8_takenUp 48 = .ok (.iadd, 1) := by decide +kernel
theorem dX8_takenUp_49 : decode cX8_takenUp 49 = .ok (.ireturn, 1) := by decide +kernel
theorem dX8_takenUp_50 : decode cX8_takenUp 50 = .ok (.iload_n 1, 1) := by decide +kernel
theorem dX8_takenUp_51 : decode cX8_takenUp 51 = .ok (.iload_n 2, 1) := by decide +kernel
theorem dX8_takenUp_52 : decode cX8_takenUp 52 = .ok (.isub, 1) := by decide +kernel
theorem dX8_takenUp_53 : decode cX8_takenUp 53 = .ok (.iload_n 3, 1) := by decide +kernel
theorem dX8_takenUp_54 : decode cX8_takenUp 54 = .ok (.iadd, 1) := by decide +kernel
theorem dX8_takenUp_55 : decode cX8_takenUp 55 = .ok (.ireturn, 1) := by decide +kernel
theorem dX8_takenUp_56 : decode cX8_takenUp 56 = .ok (.iload_n 2, 1) := by decide +kernel
theorem dX8_takenUp_57 : decode cX8_takenUp 57 = .ok (.ireturn, 1) := by decide +kernel
theorem dX8_takenUp_58 : decode cX8_takenUp 58 = .ok (.iload 5, 2) := by decide +kernel
theorem dX8_takenUp_60 : decode cX8_takenUp 60 = .ok (.ireturn, 1) := by decide +kernel
theorem dX8_partOfTwelfths_0 : decode cX8_partOfTwelfths 0 = .ok (.bipush 12, 2) := by decide +kernel
theorem dX8_partOfTwelfths_2 : decode cX8_partOfTwelfths 2 = .ok (.istore_n 2, 1) := by decide +kernel
theorem dX8_partOfTwelfths_3 : decode cX8_partOfTwelfths 3 = .ok (.iload_n 2, 1) := by decide +kernel
theorem dX8_partOfTwelfths_4 : decode cX8_partOfTwelfths 4 = .ok (.iconst 1, 1) := by decide +kernel
theorem dX8_partOfTwelfths_5 : decode cX8_partOfTwelfths 5 = .ok (.if_icmp .le 22, 3) := by decide +kernel
theorem dX8_partOfTwelfths_8 : decode cX8_partOfTwelfths 8 = .ok (.iload_n 0, 1) := by decide +kernel
theorem dX8_partOfTwelfths_9 : decode cX8_partOfTwelfths 9 = .ok (.iload_n 2, 1) := by decide +kernel
theorem dX8_partOfTwelfths_10 : decode cX8_partOfTwelfths 10 = .ok (.irem, 1) := by decide +kernel
theorem dX8_partOfTwelfths_11 : decode cX8_partOfTwelfths 11 = .ok (.ifCond .ne 10, 3) := by decide +kernel
theorem dX8_partOfTwelfths_14 : decode cX8_partOfTwelfths 14 = .ok (.bipush 12, 2) := by decide +kernel
theorem dX8_partOfTwelfths_16 : decode cX8_partOfTwelfths 16 = .ok (.iload_n 2, 1) := by decide +kernel
theorem dX8_partOfTwelfths_17 : decode cX8_partOfTwelfths 17 = .ok (.irem, 1) := by decide +kernel
theorem dX8_partOfTwelfths_18 : decode cX8_partOfTwelfths 18 = .ok (.ifCond .eq 9, 3) := by decide +kernel
theorem dX8_partOfTwelfths_21 : decode cX8_partOfTwelfths 21 = .ok (.iinc 2 (-1), 3) := by decide +kernel
theorem dX8_partOfTwelfths_24 : decode cX8_partOfTwelfths 24 = .ok (.goto (-21), 3) := by decide +kernel
theorem dX8_partOfTwelfths_27 : decode cX8_partOfTwelfths 27 = .ok (.iload_n 1, 1) := by decide +kernel
theorem dX8_partOfTwelfths_28 : decode cX8_partOfTwelfths 28 = .ok (.ifCond .ne 7, 3) := by decide +kernel
theorem dX8_partOfTwelfths_31 : decode cX8_partOfTwelfths 31 = .ok (.iload_n 0, 1) := by decide +kernel
theorem dX8_partOfTwelfths_32 : decode cX8_partOfTwelfths 32 = .ok (.goto 5, 3) := by decide +kernel
theorem dX8_partOfTwelfths_35 : decode cX8_partOfTwelfths 35 = .ok (.bipush 12, 2) := by decide +kernel
theorem dX8_partOfTwelfths_37 : decode cX8_partOfTwelfths 37 = .ok (.iload_n 2, 1) := by decide +kernel
theorem dX8_partOfTwelfths_38 : decode cX8_partOfTwelfths 38 = .ok (.idiv, 1) := by decide +kernel
theorem dX8_partOfTwelfths_39 : decode cX8_partOfTwelfths 39 = .ok (.i2l, 1) := by decide +kernel
theorem dX8_partOfTwelfths_40 : decode cX8_partOfTwelfths 40 = .ok (.lreturn, 1) := by decide +kernel
theorem dX8_doorAt_0 : decode cX8_doorAt 0 = .ok (.iload_n 1, 1) := by decide +kernel
theorem dX8_doorAt_1 : decode cX8_doorAt 1 = .ok (.iconst 0, 1) := by decide +kernel
theorem dX8_doorAt_2 : decode cX8_doorAt 2 = .ok (.aload_n 0, 1) := by decide +kernel
theorem dX8_doorAt_3 : decode cX8_doorAt 3 = .ok (.getfield 12, 3) := by decide +kernel
theorem dX8_doorAt_6 : decode cX8_doorAt 6 = .ok (.getfield 79, 3) := by decide +kernel
theorem dX8_doorAt_9 : decode cX8_doorAt 9 = .ok (.iconst 1, 1) := by decide +kernel
theorem dX8_doorAt_10 : decode cX8_doorAt 10 = .ok (.isub, 1) := by decide +kernel
theorem dX8_doorAt_11 : decode cX8_doorAt 11 = .ok (.invokestatic 67, 3) := by decide +kernel
theorem dX8_doorAt_14 : decode cX8_doorAt 14 = .ok (.ifCond .eq 15, 3) := by decide +kernel
theorem dX8_doorAt_17 : decode cX8_doorAt 17 = .ok (.aload_n 0, 1) := by decide +kernel
theorem dX8_doorAt_18 : decode cX8_doorAt 18 = .ok (.getfield 12, 3) := by decide +kernel
theorem dX8_doorAt_21 : decode cX8_doorAt 21 = .ok (.getfield 82, 3) := by decide +kernel
theorem dX8_doorAt_24 : decode cX8_doorAt 24 = .ok (.iload_n 1, 1) := by decide +kernel
theorem dX8_doorAt_25 : decode cX8_doorAt 25 = .ok (.aaload, 1) := by decide +kernel
theorem dX8_doorAt_26 : decode cX8_doorAt 26 = .ok (.goto 4, 3) := by decide +kernel
theorem dX8_doorAt_29 : decode cX8_doorAt 29 = .ok (.aconst_null, 1) := by decide +kernel
theorem dX8_doorAt_30 : decode cX8_doorAt 30 = .ok (.areturn, 1) := by decide +kernel
theorem dX8_tapeAt_0 : decode cX8_tapeAt 0 = .ok (.iload_n 1, 1) := by decide +kernel
theorem dX8_tapeAt_1 : decode cX8_tapeAt 1 = .ok (.iconst 0, 1) := by decide +kernel
theorem dX8_tapeAt_2 : decode cX8_tapeAt 2 = .ok (.iconst 5, 1) := by decide +kernel
theorem dX8_tapeAt_3 : decode cX8_tapeAt 3 = .ok (.invokestatic 67, 3) := by decide +kernel
theorem dX8_tapeAt_6 : decode cX8_tapeAt 6 = .ok (.ifCond .eq 12, 3) := by decide +kernel
theorem dX8_tapeAt_9 : decode cX8_tapeAt 9 = .ok (.aload_n 0, 1) := by decide +kernel
theorem dX8_tapeAt_10 : decode cX8_tapeAt 10 = .ok (.getfield 62, 3) := by decide +kernel
theorem dX8_tapeAt_13 : decode cX8_tapeAt 13 = .ok (.iload_n 1, 1) := by decide +kernel
theorem dX8_tapeAt_14 : decode cX8_tapeAt 14 = .ok (.aaload, 1) := by decide +kernel
theorem dX8_tapeAt_15 : decode cX8_tapeAt 15 = .ok (.goto 4, 3) := by decide +kernel
theorem dX8_tapeAt_18 : decode cX8_tapeAt 18 = .ok (.aconst_null, 1) := by decide +kernel
theorem dX8_tapeAt_19 : decode cX8_tapeAt 19 = .ok (.areturn, 1) := by decide +kernel
theorem dX8_holdingHouse_0 : decode cX8_holdingHouse 0 = .ok (.aload_n 0, 1) := by decide +kernel
theorem dX8_holdingHouse_1 : decode cX8_holdingHouse 1 = .ok (.getfield 12, 3) := by decide +kernel
theorem dX8_holdingHouse_4 : decode cX8_holdingHouse 4 = .ok (.getfield 158, 3) := by decide +kernel
theorem dX8_holdingHouse_7 : decode cX8_holdingHouse 7 = .ok (.iconst 0, 1) := by decide +kernel
theorem dX8_holdingHouse_8 : decode cX8_holdingHouse 8 = .ok (.iconst 5, 1) := by decide +kernel
theorem dX8_holdingHouse_9 : decode cX8_holdingHouse 9 = .ok (.invokestatic 67, 3) := by decide +kernel
theorem dX8_holdingHouse_12 : decode cX8_holdingHouse 12 = .ok (.ifCond .eq 18, 3) := by decide +kernel
theorem dX8_holdingHouse_15 : decode cX8_holdingHouse 15 = .ok (.aload_n 0, 1) := by decide +kernel
theorem dX8_holdingHouse_16 : decode cX8_holdingHouse 16 = .ok (.getfield 39, 3) := by decide +kernel
theorem dX8_holdingHouse_19 : decode cX8_holdingHouse 19 = .ok (.aload_n 0, 1) := by decide +kernel
theorem dX8_holdingHouse_20 : decode cX8_holdingHouse 20 = .ok (.getfield 12, 3) := by decide +kernel
theorem dX8_holdingHouse_23 : decode cX8_holdingHouse 23 = .ok (.getfield 158, 3) := by decide +kernel
theorem dX8_holdingHouse_26 : decode cX8_holdingHouse 26 = .ok (.aaload, 1) := by decide +kernel
theorem dX8_holdingHouse_27 : decode cX8_holdingHouse 27 = .ok (.goto 4, 3) := by decide +kernel
theorem dX8_holdingHouse_30 : decode cX8_holdingHouse 30 = .ok (.aconst_null, 1) := by decide +kernel
theorem dX8_holdingHouse_31 : decode cX8_holdingHouse 31 = .ok (.astore_n 1, 1) := by decide +kernel
theorem dX8_holdingHouse_32 : decode cX8_holdingHouse 32 = .ok (.aload_n 1, 1) := by decide +kernel
theorem dX8_holdingHouse_33 : decode cX8_holdingHouse 33 = .ok (.ifnonnull 10, 3) := by decide +kernel
theorem dX8_holdingHouse_36 : decode cX8_holdingHouse 36 = .ok (.aload_n 0, 1) := by decide +kernel
theorem dX8_holdingHouse_37 : decode cX8_holdingHouse 37 = .ok (.getfield 35, 3) := by decide +kernel
theorem dX8_holdingHouse_40 : decode cX8_holdingHouse 40 = .ok (.goto 4, 3) := by decide +kernel
theorem dX8_holdingHouse_43 : decode cX8_holdingHouse 43 = .ok (.aload_n 1, 1) := by decide +kernel
theorem dX8_holdingHouse_44 : decode cX8_holdingHouse 44 = .ok (.areturn, 1) := by decide +kernel
theorem dX8_courseNow_0 : decode cX8_courseNow 0 = .ok (.aload_n 0, 1) := by decide +kernel
theorem dX8_courseNow_1 : decode cX8_courseNow 1 = .ok (.getfield 46, 3) := by decide +kernel
theorem dX8_courseNow_4 : decode cX8_courseNow 4 = .ok (.aload_n 1, 1) := by decide +kernel
theorem dX8_courseNow_5 : decode cX8_courseNow 5 = .ok (.aload_n 0, 1) := by decide +kernel
theorem dX8_courseNow_6 : decode cX8_courseNow 6 = .ok (.getfield 12, 3) := by decide +kernel
theorem dX8_courseNow_9 : decode cX8_courseNow 9 = .ok (.aload_n 0, 1) := by decide +kernel
theorem dX8_courseNow_10 : decode cX8_courseNow 10 = .ok (.invokevirtual 161, 3) := by decide +kernel
theorem dX8_courseNow_13 : decode cX8_courseNow 13 = .ok (.invokevirtual 338, 3) := by decide +kernel
theorem dX8_courseNow_16 : decode cX8_courseNow 16 = .ok (.aload_n 0, 1) := by decide +kernel
theorem dX8_courseNow_17 : decode cX8_courseNow 17 = .ok (.getfield 46, 3) := by decide +kernel
theorem dX8_courseNow_20 : decode cX8_courseNow 20 = .ok (.areturn, 1) := by decide +kernel
theorem dX8_costOf_0 : decode cX8_costOf 0 = .ok (.aload_n 0, 1) := by decide +kernel
theorem dX8_costOf_1 : decode cX8_costOf 1 = .ok (.getfield 46, 3) := by decide +kernel
theorem dX8_costOf_4 : decode cX8_costOf 4 = .ok (.aload_n 1, 1) := by decide +kernel
theorem dX8_costOf_5 : decode cX8_costOf 5 = .ok (.aload_n 0, 1) := by decide +kernel
theorem dX8_costOf_6 : decode cX8_costOf 6 = .ok (.getfield 12, 3) := by decide +kernel
theorem dX8_costOf_9 : decode cX8_costOf 9 = .ok (.aload_n 0, 1) := by decide +kernel
theorem dX8_costOf_10 : decode cX8_costOf 10 = .ok (.invokevirtual 161, 3) := by decide +kernel
theorem dX8_costOf_13 : decode cX8_costOf 13 = .ok (.invokevirtual 338, 3) := by decide +kernel
theorem dX8_costOf_16 : decode cX8_costOf 16 = .ok (.aload_n 0, 1) := by decide +kernel
theorem dX8_costOf_17 : decode cX8_costOf 17 = .ok (.getfield 46, 3) := by decide +kernel
theorem dX8_costOf_20 : decode cX8_costOf 20 = .ok (.getfield 212, 3) := by decide +kernel
theorem dX8_costOf_23 : decode cX8_costOf 23 = .ok (.astore_n 3, 1) := by decide +kernel
theorem dX8_costOf_24 : decode cX8_costOf 24 = .ok (.iconst 0, 1) := by decide +kernel
theorem dX8_costOf_25 : decode cX8_costOf 25 = .ok (.istore 4, 2) := by decide +kernel
theorem dX8_costOf_27 : decode cX8_costOf 27 = .ok (.iload_n 2, 1) := by decide +kernel
theorem dX8_costOf_28 : decode cX8_costOf 28 = .ok (.iconst 2, 1) := by decide +kernel
theorem dX8_costOf_29 : decode cX8_costOf 29 = .ok (.iand, 1) := by decide +kernel
theorem dX8_costOf_30 : decode cX8_costOf 30 = .ok (.ifCond .eq 12, 3) := by decide +kernel
theorem dX8_costOf_33 : decode cX8_costOf 33 = .ok (.aload_n 3, 1) := by decide +kernel
theorem dX8_costOf_34 : decode cX8_costOf 34 = .ok (.iconst 2, 1) := by decide +kernel
theorem dX8_costOf_35 : decode cX8_costOf 35 = .ok (.invokevirtual 200, 3) := by decide +kernel
theorem dX8_costOf_38 : decode cX8_costOf 38 = .ok (.pop, 1) := by decide +kernel
theorem dX8_costOf_39 : decode cX8_costOf 39 = .ok (.iinc 4 1, 3) := by decide +kernel
theorem dX8_costOf_42 : decode cX8_costOf 42 = .ok (.iload_n 2, 1) := by decide +kernel
theorem dX8_costOf_43 : decode cX8_costOf 43 = .ok (.iconst 4, 1) := by decide +kernel
theorem dX8_costOf_44 : decode cX8_costOf 44 = .ok (.iand, 1) := by decide +kernel
theorem dX8_costOf_45 : decode cX8_costOf 45 = .ok (.ifCond .eq 11, 3) := by decide +kernel
theorem dX8_costOf_48 : decode cX8_costOf 48 = .ok (.aload_n 3, 1) := by decide +kernel
theorem dX8_costOf_49 : decode cX8_costOf 49 = .ok (.invokevirtual 203, 3) := by decide +kernel
theorem dX8_costOf_52 : decode cX8_costOf 52 = .ok (.pop, 1) := by decide +kernel
theorem dX8_costOf_53 : decode cX8_costOf 53 = .ok (.iinc 4 2, 3) := by decide +kernel
theorem dX8_costOf_56 : decode cX8_costOf 56 = .ok (.iload_n 2, 1) := by decide +kernel
theorem dX8_costOf_57 : decode cX8_costOf 57 = .ok (.bipush 8, 2) := by decide +kernel
theorem dX8_costOf_59 : decode cX8_costOf 59 = .ok (.iand, 1) := by decide +kernel
theorem dX8_costOf_60 : decode cX8_costOf 60 = .ok (.ifCond .eq 18, 3) := by decide +kernel
theorem dX8_costOf_63 : decode cX8_costOf 63 = .ok (.aload_n 3, 1) := by decide +kernel
theorem dX8_costOf_64 : decode cX8_costOf 64 = .ok (.iconst 0, 1) := by decide +kernel
theorem dX8_costOf_65 : decode cX8_costOf 65 = .ok (.invokevirtual 206, 3) := by decide +kernel
theorem dX8_costOf_68 : decode cX8_costOf 68 = .ok (.pop, 1) := by decide +kernel
theorem dX8_costOf_69 : decode cX8_costOf 69 = .ok (.aload_n 3, 1) := by decide +kernel
theorem dX8_costOf_70 : decode cX8_costOf 70 = .ok (.iconst 1, 1) := by decide +kernel
theorem dX8_costOf_71 : decode cX8_costOf 71 = .ok (.invokevirtual 206, 3) := by decide +kernel
theorem dX8_costOf_74 : decode cX8_costOf 74 = .ok (.pop, 1) := by decide +kernel
theorem dX8_costOf_75 : decode cX8_costOf 75 = .ok (.iinc 4 5, 3) := by decide +kernel
theorem dX8_costOf_78 : decode cX8_costOf 78 = .ok (.aload_n 0, 1) := by decide +kernel
theorem dX8_costOf_79 : decode cX8_costOf 79 = .ok (.getfield 46, 3) := by decide +kernel
theorem dX8_costOf_82 : decode cX8_costOf 82 = .ok (.invokevirtual 341, 3) := by decide +kernel
theorem dX8_costOf_85 : decode cX8_costOf 85 = .ok (.aload_n 0, 1) := by decide +kernel
theorem dX8_costOf_86 : decode cX8_costOf 86 = .ok (.getfield 46, 3) := by decide +kernel
theorem dX8_costOf_89 : decode cX8_costOf 89 = .ok (.bipush 12, 2) := by decide +kernel
theorem dX8_costOf_91 : decode cX8_costOf 91 = .ok (.invokevirtual 222, 3) := by decide +kernel
theorem dX8_costOf_94 : decode cX8_costOf 94 = .ok (.aload_n 0, 1) := by decide +kernel
theorem dX8_costOf_95 : decode cX8_costOf 95 = .ok (.getfield 46, 3) := by decide +kernel
theorem dX8_costOf_98 : decode cX8_costOf 98 = .ok (.invokevirtual 344, 3) := by decide +kernel
theorem dX8_costOf_101 : decode cX8_costOf 101 = .ok (.istore 5, 2) := by decide +kernel
theorem dX8_costOf_103 : decode cX8_costOf 103 = .ok (.iload_n 2, 1) := by decide +kernel
theorem dX8_costOf_104 : decode cX8_costOf 104 = .ok (.iconst 1, 1) := by decide +kernel
theorem dX8_costOf_105 : decode cX8_costOf 105 = .ok (.iand, 1) := by decide +kernel
theorem dX8_costOf_106 : decode cX8_costOf 106 = .ok (.ifCond .eq 11, 3) := by decide +kernel
theorem dX8_costOf_109 : decode cX8_costOf 109 = .ok (.iload 4, 2) := by decide +kernel
theorem dX8_costOf_111 : decode cX8_costOf 111 = .ok (.iconst 3, 1) := by decide +kernel
theorem dX8_costOf_112 : decode cX8_costOf 112 = .ok (.iload 5, 2) := by decide +kernel
theorem dX8_costOf_114 : decode cX8_costOf 114 = .ok (.imul, 1) := by decide +kernel
theorem dX8_costOf_115 : decode cX8_costOf 115 = .ok (.iadd, 1) := by decide +kernel
theorem dX8_costOf_116 : decode cX8_costOf 116 = .ok (.ireturn, 1) := by decide +kernel
theorem dX8_costOf_117 : decode cX8_costOf 117 = .ok (.iload 5, 2) := by decide +kernel
theorem dX8_costOf_119 : decode cX8_costOf 119 = .ok (.ifCond .ne 8, 3) := by decide +kernel
theorem dX8_costOf_122 : decode cX8_costOf 122 = .ok (.iload 4, 2) := by decide +kernel
theorem dX8_costOf_124 : decode cX8_costOf 124 = .ok (.goto 5, 3) := by decide +kernel
theorem dX8_costOf_127 : decode cX8_costOf 127 = .ok (.bipush (-5), 2) := by decide +kernel
theorem dX8_costOf_129 : decode cX8_costOf 129 = .ok (.ireturn, 1) := by decide +kernel
theorem dX8_rubsLessChanged_0 : decode cX8_rubsLessChanged 0 = .ok (.aload_n 0, 1) := by decide +kernel
theorem dX8_rubsLessChanged_1 : decode cX8_rubsLessChanged 1 = .ok (.getfield 46, 3) := by decide +kernel
theorem dX8_rubsLessChanged_4 : decode cX8_rubsLessChanged 4 = .ok (.aload_n 1, 1) := by decide +kernel
theorem dX8_rubsLessChanged_5 : decode cX8_rubsLessChanged 5 = .ok (.aload_n 0, 1) := by decide +kernel
theorem dX8_rubsLessChanged_6 : decode cX8_rubsLessChanged 6 = .ok (.getfield 12, 3) := by decide +kernel
theorem dX8_rubsLessChanged_9 : decode cX8_rubsLessChanged 9 = .ok (.aload_n 0, 1) := by decide +kernel
theorem dX8_rubsLessChanged_10 : decode cX8_rubsLessChanged 10 = .ok (.invokevirtual 161, 3) := by decide +kernel
theorem dX8_rubsLessChanged_13 : decode cX8_rubsLessChanged 13 = .ok (.invokevirtual 338, 3) := by decide +kernel
theorem dX8_rubsLessChanged_16 : decode cX8_rubsLessChanged 16 = .ok (.aload_n 0, 1) := by decide +kernel
theorem dX8_rubsLessChanged_17 : decode cX8_rubsLessChanged 17 = .ok (.getfield 50, 3) := by decide +kernel
theorem dX8_rubsLessChanged_20 : decode cX8_rubsLessChanged 20 = .ok (.aload_n 2, 1) := by decide +kernel
theorem dX8_rubsLessChanged_21 : decode cX8_rubsLessChanged 21 = .ok (.aload_n 0, 1) := by decide +kernel
theorem dX8_rubsLessChanged_22 : decode cX8_rubsLessChanged 22 = .ok (.getfield 12, 3) := by decide +kernel
theorem dX8_rubsLessChanged_25 : decode cX8_rubsLessChanged 25 = .ok (.aload_n 0, 1) := by decide +kernel
theorem dX8_rubsLessChanged_26 : decode cX8_rubsLessChanged 26 = .ok (.invokevirtual 161, 3) := by decide +kernel
theorem dX8_rubsLessChanged_29 : decode cX8_rubsLessChanged 29 = .ok (.invokevirtual 338, 3) := by decide +kernel
theorem dX8_rubsLessChanged_32 : decode cX8_rubsLessChanged 32 = .ok (.aload_n 0, 1) := by decide +kernel
theorem dX8_rubsLessChanged_33 : decode cX8_rubsLessChanged 33 = .ok (.getfield 46, 3) := by decide +kernel
theorem dX8_rubsLessChanged_36 : decode cX8_rubsLessChanged 36 = .ok (.aload_n 1, 1) := by decide +kernel
theorem dX8_rubsLessChanged_37 : decode cX8_rubsLessChanged 37 = .ok (.getfield 96, 3) := by decide +kernel
theorem dX8_rubsLessChanged_40 : decode cX8_rubsLessChanged 40 = .ok (.invokevirtual 347, 3) := by decide +kernel
theorem dX8_rubsLessChanged_43 : decode cX8_rubsLessChanged 43 = .ok (.aload_n 0, 1) := by decide +kernel
theorem dX8_rubsLessChanged_44 : decode cX8_rubsLessChanged 44 = .ok (.getfield 50, 3) := by decide +kernel
theorem dX8_rubsLessChanged_47 : decode cX8_rubsLessChanged 47 = .ok (.aload_n 2, 1) := by decide +kernel
theorem dX8_rubsLessChanged_48 : decode cX8_rubsLessChanged 48 = .ok (.getfield 96, 3) := by decide +kernel
theorem dX8_rubsLessChanged_51 : decode cX8_rubsLessChanged 51 = .ok (.invokevirtual 347, 3) := by decide +kernel
theorem dX8_rubsLessChanged_54 : decode cX8_rubsLessChanged 54 = .ok (.iadd, 1) := by decide +kernel
theorem dX8_rubsLessChanged_55 : decode cX8_rubsLessChanged 55 = .ok (.istore_n 3, 1) := by decide +kernel
theorem dX8_rubsLessChanged_56 : decode cX8_rubsLessChanged 56 = .ok (.aload_n 0, 1) := by decide +kernel
theorem dX8_rubsLessChanged_57 : decode cX8_rubsLessChanged 57 = .ok (.getfield 46, 3) := by decide +kernel
theorem dX8_rubsLessChanged_60 : decode cX8_rubsLessChanged 60 = .ok (.aload_n 2, 1) := by decide +kernel
theorem dX8_rubsLessChanged_61 : decode cX8_rubsLessChanged 61 = .ok (.getfield 96, 3) := by decide +kernel
theorem dX8_rubsLessChanged_64 : decode cX8_rubsLessChanged 64 = .ok (.invokevirtual 347, 3) := by decide +kernel
theorem dX8_rubsLessChanged_67 : decode cX8_rubsLessChanged 67 = .ok (.aload_n 0, 1) := by decide +kernel
theorem dX8_rubsLessChanged_68 : decode cX8_rubsLessChanged 68 = .ok (.getfield 50, 3) := by decide +kernel
theorem dX8_rubsLessChanged_71 : decode cX8_rubsLessChanged 71 = .ok (.aload_n 1, 1) := by decide +kernel
theorem dX8_rubsLessChanged_72 : decode cX8_rubsLessChanged 72 = .ok (.getfield 96, 3) := by decide +kernel
theorem dX8_rubsLessChanged_75 : decode cX8_rubsLessChanged 75 = .ok (.invokevirtual 347, 3) := by decide +kernel
theorem dX8_rubsLessChanged_78 : decode cX8_rubsLessChanged 78 = .ok (.iadd, 1) := by decide +kernel
theorem dX8_rubsLessChanged_79 : decode cX8_rubsLessChanged 79 = .ok (.istore 4, 2) := by decide +kernel
theorem dX8_rubsLessChanged_81 : decode cX8_rubsLessChanged 81 = .ok (.iload 4, 2) := by decide +kernel
theorem dX8_rubsLessChanged_83 : decode cX8_rubsLessChanged 83 = .ok (.iload_n 3, 1) := by decide +kernel
theorem dX8_rubsLessChanged_84 : decode cX8_rubsLessChanged 84 = .ok (.if_icmp .ge 7, 3) := by decide +kernel
theorem dX8_rubsLessChanged_87 : decode cX8_rubsLessChanged 87 = .ok (.iconst 1, 1) := by decide +kernel
theorem dX8_rubsLessChanged_88 : decode cX8_rubsLessChanged 88 = .ok (.goto 4, 3) := by decide +kernel
theorem dX8_rubsLessChanged_91 : decode cX8_rubsLessChanged 91 = .ok (.iconst 0, 1) := by decide +kernel
theorem dX8_rubsLessChanged_92 : decode cX8_rubsLessChanged 92 = .ok (.ireturn, 1) := by decide +kernel
theorem dX9_init_0 : decode cX9_init 0 = .ok (.aload_n 0, 1) := by decide +kernel
theorem dX9_init_1 : decode cX9_init 1 = .ok (.invokespecial 1, 3) := by decide +kernel
theorem dX9_init_4 : decode cX9_init 4 = .ok (.aload_n 0, 1) := by decide +kernel
theorem dX9_init_5 : decode cX9_init 5 = .ok (.bipush 12, 2) := by decide +kernel
theorem dX9_init_7 : decode cX9_init 7 = .ok (.newarray .int, 2) := by decide +kernel
theorem dX9_init_9 : decode cX9_init 9 = .ok (.dup, 1) := by decide +kernel
theorem dX9_init_10 : decode cX9_init 10 = .ok (.iconst 0, 1) := by decide +kernel
theorem dX9_init_11 : decode cX9_init 11 = .ok (.bipush 50, 2) := by decide +kernel
theorem dX9_init_13 : decode cX9_init 13 = .ok (.iastore, 1) := by decide +kernel
theorem dX9_init_14 : decode cX9_init 14 = .ok (.dup, 1) := by decide +kernel
theorem dX9_init_15 : decode cX9_init 15 = .ok (.iconst 1, 1) := by decide +kernel
theorem dX9_init_16 : decode cX9_init 16 = .ok (.bipush 50, 2) := by decide +kernel
theorem dX9_init_18 : decode cX9_init 18 = .ok (.iastore, 1) := by decide +kernel
theorem dX9_init_19 : decode cX9_init 19 = .ok (.dup, 1) := by decide +kernel
theorem dX9_init_20 : decode cX9_init 20 = .ok (.iconst 2, 1) := by decide +kernel
theorem dX9_init_21 : decode cX9_init 21 = .ok (.bipush 50, 2) := by decide +kernel
theorem dX9_init_23 : decode cX9_init 23 = .ok (.iastore, 1) := by decide +kernel
theorem dX9_init_24 : decode cX9_init 24 = .ok (.dup, 1) := by decide +kernel
theorem dX9_init_25 : decode cX9_init 25 = .ok (.iconst 3, 1) := by decide +kernel
theorem dX9_init_26 : decode cX9_init 26 = .ok (.bipush 50, 2) := by decide +kernel
theorem dX9_init_28 : decode cX9_init 28 = .ok (.iastore, 1) := by decide +kernel
theorem dX9_init_29 : decode cX9_init 29 = .ok (.dup, 1) := by decide +kernel
theorem dX9_init_30 : decode cX9_init 30 = .ok (.iconst 4, 1) := by decide +kernel
theorem dX9_init_31 : decode cX9_init 31 = .ok (.bipush 50, 2) := by decide +kernel
theorem dX9_init_33 : decode cX9_init 33 = .ok (.iastore, 1) := by decide +kernel
theorem dX9_init_34 : decode cX9_init 34 = .ok (.dup, 1) := by decide +kernel
theorem dX9_init_35 : decode cX9_init 35 = .ok (.iconst 5, 1) := by decide +kernel
theorem dX9_init_36 : decode cX9_init 36 = .ok (.bipush 50, 2) := by decide +kernel
theorem dX9_init_38 : decode cX9_init 38 = .ok (.iastore, 1) := by decide +kernel
theorem dX9_init_39 : decode cX9_init 39 = .ok (.dup, 1) := by decide +kernel
theorem dX9_init_40 : decode cX9_init 40 = .ok (.bipush 6, 2) := by decide +kernel
theorem dX9_init_42 : decode cX9_init 42 = .ok (.bipush 50, 2) := by decide +kernel
theorem dX9_init_44 : decode cX9_init 44 = .ok (.iastore, 1) := by decide +kernel
theorem dX9_init_45 : decode cX9_init 45 = .ok (.dup, 1) := by decide +kernel
theorem dX9_init_46 : decode cX9_init 46 = .ok (.bipush 7, 2) := by decide +kernel
theorem dX9_init_48 : decode cX9_init 48 = .ok (.bipush 50, 2) := by decide +kernel
theorem dX9_init_50 : decode cX9_init 50 = .ok (.iastore, 1) := by decide +kernel
theorem dX9_init_51 : decode cX9_init 51 = .ok (.dup, 1) := by decide +kernel
theorem dX9_init_52 : decode cX9_init 52 = .ok (.bipush 8, 2) := by decide +kernel
theorem dX9_init_54 : decode cX9_init 54 = .ok (.bipush 50, 2) := by decide +kernel
theorem dX9_init_56 : decode cX9_init 56 = .ok (.iastore, 1) := by decide +kernel
theorem dX9_init_57 : decode cX9_init 57 = .ok (.dup, 1) := by decide +kernel
theorem dX9_init_58 : decode cX9_init 58 = .ok (.bipush 9, 2) := by decide +kernel
theorem dX9_init_60 : decode cX9_init 60 = .ok (.bipush 50, 2) := by decide +kernel
theorem dX9_init_62 : decode cX9_init 62 = .ok (.iastore, 1) := by decide +kernel
theorem dX9_init_63 : decode cX9_init 63 = .ok (.dup, 1) := by decide +kernel
theorem dX9_init_64 : decode cX9_init 64 = .ok (.bipush 10, 2) := by decide +kernel
theorem dX9_init_66 : decode cX9_init 66 = .ok (.bipush 50, 2) := by decide +kernel
theorem dX9_init_68 : decode cX9_init 68 = .ok (.iastore, 1) := by decide +kernel
theorem dX9_init_69 : decode cX9_init 69 = .ok (.dup, 1) := by decide +kernel
theorem dX9_init_70 : decode cX9_init 70 = .ok (.bipush 11, 2) := by decide +kernel
theorem dX9_init_72 : decode cX9_init 72 = .ok (.bipush 50, 2) := by decide +kernel
theorem dX9_init_74 : decode cX9_init 74 = .ok (.iastore, 1) := by decide +kernel
theorem dX9_init_75 : decode cX9_init 75 = .ok (.putfield 7, 3) := by decide +kernel
theorem dX9_init_78 : decode cX9_init 78 = .ok (.aload_n 0, 1) := by decide +kernel
theorem dX9_init_79 : decode cX9_init 79 = .ok (.iconst 0, 1) := by decide +kernel
theorem dX9_init_80 : decode cX9_init 80 = .ok (.putfield 13, 3) := by decide +kernel
theorem dX9_init_83 : decode cX9_init 83 = .ok (.aload_n 0, 1) := by decide +kernel
theorem dX9_init_84 : decode cX9_init 84 = .ok (.iconst 0, 1) := by decide +kernel
theorem dX9_init_85 : decode cX9_init 85 = .ok (.putfield 17, 3) := by decide +kernel
theorem dX9_init_88 : decode cX9_init 88 = .ok (.aload_n 0, 1) := by decide +kernel
theorem dX9_init_89 : decode cX9_init 89 = .ok (.iconst 0, 1) := by decide +kernel
theorem dX9_init_90 : decode cX9_init 90 = .ok (.putfield 20, 3) := by decide +kernel
theorem dX9_init_93 : decode cX9_init 93 = .ok (.aload_n 0, 1) := by decide +kernel
theorem dX9_init_94 : decode cX9_init 94 = .ok (.iconst 4, 1) := by decide +kernel
theorem dX9_init_95 : decode cX9_init 95 = .ok (.newarray .int, 2) := by decide +kernel
theorem dX9_init_97 : decode cX9_init 97 = .ok (.putfield 23, 3) := by decide +kernel
theorem dX9_init_100 : decode cX9_init 100 = .ok (.aload_n 0, 1) := by decide +kernel
theorem dX9_init_101 : decode cX9_init 101 = .ok (.iconst 4, 1) := by decide +kernel
theorem dX9_init_102 : decode cX9_init 102 = .ok (.newarray .int, 2) := by decide +kernel
theorem dX9_init_104 : decode cX9_init 104 = .ok (.putfield 26, 3) := by decide +kernel
theorem dX9_init_107 : decode cX9_init 107 = .ok (.aload_n 0, 1) := by decide +kernel
theorem dX9_init_108 : decode cX9_init 108 = .ok (.iconst 4, 1) := by decide +kernel
theorem dX9_init_109 : decode cX9_init 109 = .ok (.newarray .int, 2) := by decide +kernel
theorem dX9_init_111 : decode cX9_init 111 = .ok (.putfield 29, 3) := by decide +kernel
theorem dX9_init_114 : decode cX9_init 114 = .ok (.aload_n 0, 1) := by decide +kernel
theorem dX9_init_115 : decode cX9_init 115 = .ok (.iconst 4, 1) := by decide +kernel
theorem dX9_init_116 : decode cX9_init 116 = .ok (.newarray .int, 2) := by decide +kernel
theorem dX9_init_118 : decode cX9_init 118 = .ok (.putfield 32, 3) := by decide +kernel
theorem dX9_init_121 : decode cX9_init 121 = .ok (.aload_n 0, 1) := by decide +kernel
theorem dX9_init_122 : decode cX9_init 122 = .ok (.iconst 4, 1) := by decide +kernel
theorem dX9_init_123 : decode cX9_init 123 = .ok (.newarray .int, 2) := by decide +kernel
theorem dX9_init_125 : decode cX9_init 125 = .ok (.putfield 35, 3) := by decide +kernel
theorem dX9_init_128 : decode cX9_init 128 = .ok (.aload_n 0, 1) := by decide +kernel
theorem dX9_init_129 : decode cX9_init 129 = .ok (.iconst 4, 1) := by decide +kernel
theorem dX9_init_130 : decode cX9_init 130 = .ok (.newarray .int, 2) := by decide +kernel
theorem dX9_init_132 : decode cX9_init 132 = .ok (.putfield 38, 3) := by decide +kernel
theorem dX9_init_135 : decode cX9_init 135 = .ok (.aload_n 0, 1) := by decide +kernel
theorem dX9_init_136 : decode cX9_init 136 = .ok (.iconst 4, 1) := by decide +kernel
theorem dX9_init_137 : decode cX9_init 137 = .ok (.newarray .int, 2) := by decide +kernel
theorem dX9_init_139 : decode cX9_init 139 = .ok (.putfield 41, 3) := by decide +kernel
theorem dX9_init_142 : decode cX9_init 142 = .ok (.aload_n 0, 1) := by decide +kernel
theorem dX9_init_143 : decode cX9_init 143 = .ok (.bipush 24, 2) := by decide +kernel
theorem dX9_init_145 : decode cX9_init 145 = .ok (.newarray .int, 2) := by decide +kernel
theorem dX9_init_147 : decode cX9_init 147 = .ok (.putfield 44, 3) := by decide +kernel
theorem dX9_init_150 : decode cX9_init 150 = .ok (.aload_n 0, 1) := by decide +kernel
theorem dX9_init_151 : decode cX9_init 151 = .ok (.iconst 0, 1) := by decide +kernel
theorem dX9_init_152 : decode cX9_init 152 = .ok (.putfield 47, 3) := by decide +kernel
theorem dX9_init_155 : decode cX9_init 155 = .ok (.aload_n 0, 1) := by decide +kernel
theorem dX9_init_156 : decode cX9_init 156 = .ok (.iconst (-1), 1) := by decide +kernel
theorem dX9_init_157 : decode cX9_init 157 = .ok (.putfield 50, 3) := by decide +kernel
theorem dX9_init_160 : decode cX9_init 160 = .ok (.aload_n 0, 1) := by decide +kernel
theorem dX9_init_161 : decode cX9_init 161 = .ok (.iconst 0, 1) := by decide +kernel
theorem dX9_init_162 : decode cX9_init 162 = .ok (.putfield 53, 3) := by decide +kernel
theorem dX9_init_165 : decode cX9_init 165 = .ok (.aload_n 0, 1) := by decide +kernel
theorem dX9_init_166 : decode cX9_init 166 = .ok (.iconst 0, 1) := by decide +kernel
theorem dX9_init_167 : decode cX9_init 167 = .ok (.putfield 56, 3) := by decide +kernel
theorem dX9_init_170 : decode cX9_init 170 = .ok (.aload_n 0, 1) := by decide +kernel
theorem dX9_init_171 : decode cX9_init 171 = .ok (.iconst 0, 1) := by decide +kernel
theorem dX9_init_172 : decode cX9_init 172 = .ok (.putfield 59, 3) := by decide +kernel
theorem dX9_init_175 : decode cX9_init 175 = .ok (.aload_n 0, 1) := by decide +kernel
theorem dX9_init_176 : decode cX9_init 176 = .ok (.bipush 100, 2) := by decide +kernel
theorem dX9_init_178 : decode cX9_init 178 = .ok (.newarray .int, 2) := by decide +kernel
theorem dX9_init_180 : decode cX9_init 180 = .ok (.putfield 62, 3) := by decide +kernel
theorem dX9_init_183 : decode cX9_init 183 = .ok (.aload_n 0, 1) := by decide +kernel
theorem dX9_init_184 : decode cX9_init 184 = .ok (.bipush 6, 2) := by decide +kernel
theorem dX9_init_186 : decode cX9_init 186 = .ok (.newarray .int, 2) := by decide +kernel
theorem dX9_init_188 : decode cX9_init 188 = .ok (.putfield 65, 3) := by decide +kernel
theorem dX9_init_191 : decode cX9_init 191 = .ok (.aload_n 0, 1) := by decide +kernel
theorem dX9_init_192 : decode cX9_init 192 = .ok (.bipush 60, 2) := by decide +kernel
theorem dX9_init_194 : decode cX9_init 194 = .ok (.newarray .int, 2) := by decide +kernel
theorem dX9_init_196 : decode cX9_init 196 = .ok (.putfield 68, 3) := by decide +kernel
theorem dX9_init_199 : decode cX9_init 199 = .ok (.aload_n 0, 1) := by decide +kernel
theorem dX9_init_200 : decode cX9_init 200 = .ok (.bipush 60, 2) := by decide +kernel
theorem dX9_init_202 : decode cX9_init 202 = .ok (.newarray .int, 2) := by decide +kernel
theorem dX9_init_204 : decode cX9_init 204 = .ok (.putfield 71, 3) := by decide +kernel
theorem dX9_init_207 : decode cX9_init 207 = .ok (.aload_n 0, 1) := by decide +kernel
theorem dX9_init_208 : decode cX9_init 208 = .ok (.bipush 60, 2) := by decide +kernel
theorem dX9_init_210 : decode cX9_init 210 = .ok (.newarray .int, 2) := by decide +kernel
theorem dX9_init_212 : decode cX9_init 212 = .ok (.putfield 74, 3) := by decide +kernel
theorem dX9_init_215 : decode cX9_init 215 = .ok (.aload_n 0, 1) := by decide +kernel
theorem dX9_init_216 : decode cX9_init 216 = .ok (.bipush 60, 2) := by decide +kernel
theorem dX9_init_218 : decode cX9_init 218 = .ok (.newarray .int, 2) := by decide +kernel
theorem dX9_init_220 : decode cX9_init 220 = .ok (.putfield 77, 3) := by decide +kernel
theorem dX9_init_223 : decode cX9_init 223 = .ok (.aload_n 0, 1) := by decide +kernel
theorem dX9_init_224 : decode cX9_init 224 = .ok (.sipush 600, 3) := by decide +kernel
theorem dX9_init_227 : decode cX9_init 227 = .ok (.newarray .int, 2) := by decide +kernel
theorem dX9_init_229 : decode cX9_init 229 = .ok (.putfield 80, 3) := by decide +kernel
theorem dX9_init_232 : decode cX9_init 232 = .ok (.aload_n 0, 1) := by decide +kernel
theorem dX9_init_233 : decode cX9_init 233 = .ok (.bipush 101, 2) := by decide +kernel
theorem dX9_init_235 : decode cX9_init 235 = .ok (.newarray .int, 2) := by decide +kernel
theorem dX9_init_237 : decode cX9_init 237 = .ok (.putfield 83, 3) := by decide +kernel
theorem dX9_init_240 : decode cX9_init 240 = .ok (.aload_n 0, 1) := by decide +kernel
theorem dX9_init_241 : decode cX9_init 241 = .ok (.iconst 0, 1) := by decide +kernel
theorem dX9_init_242 : decode cX9_init 242 = .ok (.putfield 86, 3) := by decide +kernel
theorem dX9_init_245 : decode cX9_init 245 = .ok (.aload_n 0, 1) := by decide +kernel
theorem dX9_init_246 : decode cX9_init 246 = .ok (.iconst 0, 1) := by decide +kernel
theorem dX9_init_247 : decode cX9_init 247 = .ok (.putfield 89, 3) := by decide +kernel
theorem dX9_init_250 : decode cX9_init 250 = .ok (.aload_n 0, 1) := by decide +kernel
theorem dX9_init_251 : decode cX9_init 251 = .ok (.iconst 0, 1) := by decide +kernel
theorem dX9_init_252 : decode cX9_init 252 = .ok (.putfield 92, 3) := by decide +kernel
theorem dX9_init_255 : decode cX9_init 255 = .ok (.aload_n 0, 1) := by decide +kernel
theorem dX9_init_256 : decode cX9_init 256 = .ok (.bipush 20, 2) := by decide +kernel
theorem dX9_init_258 : decode cX9_init 258 = .ok (.newarray .int, 2) := by decide +kernel
theorem dX9_init_260 : decode cX9_init 260 = .ok (.dup, 1) := by decide +kernel
theorem dX9_init_261 : decode cX9_init 261 = .ok (.iconst 0, 1) := by decide +kernel
theorem dX9_init_262 : decode cX9_init 262 = .ok (.bipush 115, 2) := by decide +kernel
theorem dX9_init_264 : decode cX9_init 264 = .ok (.iastore, 1) := by decide +kernel
theorem dX9_init_265 : decode cX9_init 265 = .ok (.dup, 1) := by decide +kernel
theorem dX9_init_266 : decode cX9_init 266 = .ok (.iconst 1, 1) := by decide +kernel
theorem dX9_init_267 : decode cX9_init 267 = .ok (.bipush 119, 2) := by decide +kernel
theorem dX9_init_269 : decode cX9_init 269 = .ok (.iastore, 1) := by decide +kernel
theorem dX9_init_270 : decode cX9_init 270 = .ok (.dup, 1) := by decide +kernel
theorem dX9_init_271 : decode cX9_init 271 = .ok (.iconst 2, 1) := by decide +kernel
theorem dX9_init_272 : decode cX9_init 272 = .ok (.bipush 101, 2) := by decide +kernel
theorem dX9_init_274 : decode cX9_init 274 = .ok (.iastore, 1) := by decide +kernel
theorem dX9_init_275 : decode cX9_init 275 = .ok (.dup, 1) := by decide +kernel
theorem dX9_init_276 : decode cX9_init 276 = .ok (.iconst 3, 1) := by decide +kernel
theorem dX9_init_277 : decode cX9_init 277 = .ok (.bipush 108, 2) := by decide +kernel
theorem dX9_init_279 : decode cX9_init 279 = .ok (.iastore, 1) := by decide +kernel
theorem dX9_init_280 : decode cX9_init 280 = .ok (.dup, 1) := by decide +kernel
theorem dX9_init_281 : decode cX9_init 281 = .ok (.iconst 4, 1) := by decide +kernel
theorem dX9_init_282 : decode cX9_init 282 = .ok (.bipush 108, 2) := by decide +kernel
theorem dX9_init_284 : decode cX9_init 284 = .ok (.iastore, 1) := by decide +kernel
theorem dX9_init_285 : decode cX9_init 285 = .ok (.dup, 1) := by decide +kernel
theorem dX9_init_286 : decode cX9_init 286 = .ok (.iconst 5, 1) := by decide +kernel
theorem dX9_init_287 : decode cX9_init 287 = .ok (.bipush 100, 2) := by decide +kernel
theorem dX9_init_289 : decode cX9_init 289 = .ok (.iastore, 1) := by decide +kernel
theorem dX9_init_290 : decode cX9_init 290 = .ok (.dup, 1) := by decide +kernel
theorem dX9_init_291 : decode cX9_init 291 = .ok (.bipush 6, 2) := by decide +kernel
theorem dX9_init_293 : decode cX9_init 293 = .ok (.bipush 114, 2) := by decide +kernel
theorem dX9_init_295 : decode cX9_init 295 = .ok (.iastore, 1) := by decide +kernel
theorem dX9_init_296 : decode cX9_init 296 = .ok (.dup, 1) := by decide +kernel
theorem dX9_init_297 : decode cX9_init 297 = .ok (.bipush 7, 2) := by decide +kernel
theorem dX9_init_299 : decode cX9_init 299 = .ok (.bipush 97, 2) := by decide +kernel
theorem dX9_init_301 : decode cX9_init 301 = .ok (.iastore, 1) := by decide +kernel
theorem dX9_init_302 : decode cX9_init 302 = .ok (.dup, 1) := by decide +kernel
theorem dX9_init_303 : decode cX9_init 303 = .ok (.bipush 8, 2) := by decide +kernel
theorem dX9_init_305 : decode cX9_init 305 = .ok (.bipush 119, 2) := by decide +kernel
theorem dX9_init_307 : decode cX9_init 307 = .ok (.iastore, 1) := by decide +kernel
theorem dX9_init_308 : decode cX9_init 308 = .ok (.dup, 1) := by decide +kernel
theorem dX9_init_309 : decode cX9_init 309 = .ok (.bipush 9, 2) := by decide +kernel
theorem dX9_init_311 : decode cX9_init 311 = .ok (.bipush 115, 2) := by decide +kernel
theorem dX9_init_313 : decode cX9_init 313 = .ok (.iastore, 1) := by decide +kernel
theorem dX9_init_314 : decode cX9_init 314 = .ok (.dup, 1) := by decide +kernel
theorem dX9_init_315 : decode cX9_init 315 = .ok (.bipush 10, 2) := by decide +kernel
theorem dX9_init_317 : decode cX9_init 317 = .ok (.bipush 105, 2) := by decide +kernel
theorem dX9_init_319 : decode cX9_init 319 = .ok (.iastore, 1) := by decide +kernel
theorem dX9_init_320 : decode cX9_init 320 = .ok (.dup, 1) := by decide +kernel
theorem dX9_init_321 : decode cX9_init 321 = .ok (.bipush 11, 2) := by decide +kernel
theorem dX9_init_323 : decode cX9_init 323 = .ok (.bipush 110, 2) := by decide +kernel
theorem dX9_init_325 : decode cX9_init 325 = .ok (.iastore, 1) := by decide +kernel
theorem dX9_init_326 : decode cX9_init 326 = .ok (.dup, 1) := by decide +kernel
theorem dX9_init_327 : decode cX9_init 327 = .ok (.bipush 12, 2) := by decide +kernel
theorem dX9_init_329 : decode cX9_init 329 = .ok (.bipush 107, 2) := by decide +kernel
theorem dX9_init_331 : decode cX9_init 331 = .ok (.iastore, 1) := by decide +kernel
theorem dX9_init_332 : decode cX9_init 332 = .ok (.dup, 1) := by decide +kernel
theorem dX9_init_333 : decode cX9_init 333 = .ok (.bipush 13, 2) := by decide +kernel
theorem dX9_init_335 : decode cX9_init 335 = .ok (.bipush 100, 2) := by decide +kernel
theorem dX9_init_337 : decode cX9_init 337 = .ok (.iastore, 1) := by decide +kernel
theorem dX9_init_338 : decode cX9_init 338 = .ok (.dup, 1) := by decide +kernel
theorem dX9_init_339 : decode cX9_init 339 = .ok (.bipush 14, 2) := by decide +kernel
theorem dX9_init_341 : decode cX9_init 341 = .ok (.bipush 114, 2) := by decide +kernel
theorem dX9_init_343 : decode cX9_init 343 = .ok (.iastore, 1) := by decide +kernel
theorem dX9_init_344 : decode cX9_init 344 = .ok (.dup, 1) := by decide +kernel
theorem dX9_init_345 : decode cX9_init 345 = .ok (.bipush 15, 2) := by decide +kernel
theorem dX9_init_347 : decode cX9_init 347 = .ok (.bipush 97, 2) := by decide +kernel
theorem dX9_init_349 : decode cX9_init 349 = .ok (.iastore, 1) := by decide +kernel
theorem dX9_init_350 : decode cX9_init 350 = .ok (.dup, 1) := by decide +kernel
theorem dX9_init_351 : decode cX9_init 351 = .ok (.bipush 16, 2) := by decide +kernel
theorem dX9_init_353 : decode cX9_init 353 = .ok (.bipush 117, 2) := by decide +kernel
theorem dX9_init_355 : decode cX9_init 355 = .ok (.iastore, 1) := by decide +kernel
theorem dX9_init_356 : decode cX9_init 356 = .ok (.dup, 1) := by decide +kernel
theorem dX9_init_357 : decode cX9_init 357 = .ok (.bipush 17, 2) := by decide +kernel
theorem dX9_init_359 : decode cX9_init 359 = .ok (.bipush 103, 2) := by decide +kernel
theorem dX9_init_361 : decode cX9_init 361 = .ok (.iastore, 1) := by decide +kernel
theorem dX9_init_362 : decode cX9_init 362 = .ok (.dup, 1) := by decide +kernel
theorem dX9_init_363 : decode cX9_init 363 = .ok (.bipush 18, 2) := by decide +kernel
theorem dX9_init_365 : decode cX9_init 365 = .ok (.bipush 104, 2) := by decide +kernel
theorem dX9_init_367 : decode cX9_init 367 = .ok (.iastore, 1) := by decide +kernel
theorem dX9_init_368 : decode cX9_init 368 = .ok (.dup, 1) := by decide +kernel
theorem dX9_init_369 : decode cX9_init 369 = .ok (.bipush 19, 2) := by decide +kernel
theorem dX9_init_371 : decode cX9_init 371 = .ok (.bipush 116, 2) := by decide +kernel
theorem dX9_init_373 : decode cX9_init 373 = .ok (.iastore, 1) := by decide +kernel
theorem dX9_init_374 : decode cX9_init 374 = .ok (.putfield 95, 3) := by decide +kernel
theorem dX9_init_377 : decode cX9_init 377 = .ok (.aload_n 0, 1) := by decide +kernel
theorem dX9_init_378 : decode cX9_init 378 = .ok (.bipush 100, 2) := by decide +kernel
theorem dX9_init_380 : decode cX9_init 380 = .ok (.newarray .boolean, 2) := by decide +kernel
theorem dX9_init_382 : decode cX9_init 382 = .ok (.putfield 98, 3) := by decide +kernel
theorem dX9_init_385 : decode cX9_init 385 = .ok (.aload_n 0, 1) := by decide +kernel
theorem dX9_init_386 : decode cX9_init 386 = .ok (.iconst 4, 1) := by decide +kernel
theorem dX9_init_387 : decode cX9_init 387 = .ok (.newarray .int, 2) := by decide +kernel
theorem dX9_init_389 : decode cX9_init 389 = .ok (.putfield 102, 3) := by decide +kernel
theorem dX9_init_392 : decode cX9_init 392 = .ok (.aload_n 0, 1) := by decide +kernel
theorem dX9_init_393 : decode cX9_init 393 = .ok (.iconst 4, 1) := by decide +kernel
theorem dX9_init_394 : decode cX9_init 394 = .ok (.newarray .int, 2) := by decide +kernel
theorem dX9_init_396 : decode cX9_init 396 = .ok (.putfield 105, 3) := by decide +kernel
theorem dX9_init_399 : decode cX9_init 399 = .ok (.aload_n 0, 1) := by decide +kernel
theorem dX9_init_400 : decode cX9_init 400 = .ok (.iconst 4, 1) := by decide +kernel
theorem dX9_init_401 : decode cX9_init 401 = .ok (.newarray .int, 2) := by decide +kernel
theorem dX9_init_403 : decode cX9_init 403 = .ok (.putfield 108, 3) := by decide +kernel
theorem dX9_init_406 : decode cX9_init 406 = .ok (.aload_n 0, 1) := by decide +kernel
theorem dX9_init_407 : decode cX9_init 407 = .ok (.iconst 0, 1) := by decide +kernel
theorem dX9_init_408 : decode cX9_init 408 = .ok (.putfield 111, 3) := by decide +kernel
theorem dX9_init_411 : decode cX9_init 411 = .ok (.aload_n 0, 1) := by decide +kernel
theorem dX9_init_412 : decode cX9_init 412 = .ok (.iconst 0, 1) := by decide +kernel
theorem dX9_init_413 : decode cX9_init 413 = .ok (.putfield 114, 3) := by decide +kernel
theorem dX9_init_416 : decode cX9_init 416 = .ok (.aload_n 0, 1) := by decide +kernel
theorem dX9_init_417 : decode cX9_init 417 = .ok (.iconst 0, 1) := by decide +kernel
theorem dX9_init_418 : decode cX9_init 418 = .ok (.putfield 117, 3) := by decide +kernel
theorem dX9_init_421 : decode cX9_init 421 = .ok (.aload_n 0, 1) := by decide +kernel
theorem dX9_init_422 : decode cX9_init 422 = .ok (.iconst 0, 1) := by decide +kernel
theorem dX9_init_423 : decode cX9_init 423 = .ok (.putfield 120, 3) := by decide +kernel
theorem dX9_init_426 : decode cX9_init 426 = .ok (.aload_n 0, 1) := by decide +kernel
theorem dX9_init_427 : decode cX9_init 427 = .ok (.iconst 0, 1) := by decide +kernel
theorem dX9_init_428 : decode cX9_init 428 = .ok (.putfield 123, 3) := by decide +kernel
theorem dX9_init_431 : decode cX9_init 431 = .ok (.aload_n 0, 1) := by decide +kernel
theorem dX9_init_432 : decode cX9_init 432 = .ok (.bipush 12, 2) := by decide +kernel
theorem dX9_init_434 : decode cX9_init 434 = .ok (.newarray .int, 2) := by decide +kernel
theorem dX9_init_436 : decode cX9_init 436 = .ok (.putfield 126, 3) := by decide +kernel
theorem dX9_init_439 : decode cX9_init 439 = .ok (.aload_n 0, 1) := by decide +kernel
theorem dX9_init_440 : decode cX9_init 440 = .ok (.bipush 12, 2) := by decide +kernel
theorem dX9_init_442 : decode cX9_init 442 = .ok (.newarray .int, 2) := by decide +kernel
theorem dX9_init_444 : decode cX9_init 444 = .ok (.putfield 129, 3) := by decide +kernel
theorem dX9_init_447 : decode cX9_init 447 = .ok (.aload_n 0, 1) := by decide +kernel
theorem dX9_init_448 : decode cX9_init 448 = .ok (.iconst 0, 1) := by decide +kernel
theorem dX9_init_449 : decode cX9_init 449 = .ok (.putfield 132, 3) := by decide +kernel
theorem dX9_init_452 : decode cX9_init 452 = .ok (.aload_n 0, 1) := by decide +kernel
theorem dX9_init_453 : decode cX9_init 453 = .ok (.iconst (-1), 1) := by decide +kernel
theorem dX9_init_454 : decode cX9_init 454 = .ok (.putfield 136, 3) := by decide +kernel
theorem dX9_init_457 : decode cX9_init 457 = .ok (.aload_n 0, 1) := by decide +kernel
theorem dX9_init_458 : decode cX9_init 458 = .ok (.iconst 0, 1) := by decide +kernel
theorem dX9_init_459 : decode cX9_init 459 = .ok (.putfield 139, 3) := by decide +kernel
theorem dX9_init_462 : decode cX9_init 462 = .ok (.aload_n 0, 1) := by decide +kernel
theorem dX9_init_463 : decode cX9_init 463 = .ok (.iconst 0, 1) := by decide +kernel
theorem dX9_init_464 : decode cX9_init 464 = .ok (.putfield 142, 3) := by decide +kernel
theorem dX9_init_467 : decode cX9_init 467 = .ok (.aload_n 0, 1) := by decide +kernel
theorem dX9_init_468 : decode cX9_init 468 = .ok (.iconst 0, 1) := by decide +kernel
theorem dX9_init_469 : decode cX9_init 469 = .ok (.putfield 145, 3) := by decide +kernel
theorem dX9_init_472 : decode cX9_init 472 = .ok (.aload_n 0, 1) := by decide +kernel
theorem dX9_init_473 : decode cX9_init 473 = .ok (.iconst 0, 1) := by decide +kernel
theorem dX9_init_474 : decode cX9_init 474 = .ok (.putfield 148, 3) := by decide +kernel
theorem dX9_init_477 : decode cX9_init 477 = .ok (.aload_n 0, 1) := by decide +kernel
theorem dX9_init_478 : decode cX9_init 478 = .ok (.bipush 12, 2) := by decide +kernel
theorem dX9_init_480 : decode cX9_init 480 = .ok (.newarray .int, 2) := by decide +kernel
theorem dX9_init_482 : decode cX9_init 482 = .ok (.putfield 151, 3) := by decide +kernel
theorem dX9_init_485 : decode cX9_init 485 = .ok (.aload_n 0, 1) := by decide +kernel
theorem dX9_init_486 : decode cX9_init 486 = .ok (.iconst 4, 1) := by decide +kernel
theorem dX9_init_487 : decode cX9_init 487 = .ok (.newarray .int, 2) := by decide +kernel
theorem dX9_init_489 : decode cX9_init 489 = .ok (.putfield 154, 3) := by decide +kernel
theorem dX9_init_492 : decode cX9_init 492 = .ok (.aload_n 0, 1) := by decide +kernel
theorem dX9_init_493 : decode cX9_init 493 = .ok (.iconst 4, 1) := by decide +kernel
theorem dX9_init_494 : decode cX9_init 494 = .ok (.newarray .int, 2) := by decide +kernel
theorem dX9_init_496 : decode cX9_init 496 = .ok (.putfield 157, 3) := by decide +kernel
theorem dX9_init_499 : decode cX9_init 499 = .ok (.aload_n 0, 1) := by decide +kernel
theorem dX9_init_500 : decode cX9_init 500 = .ok (.iconst 4, 1) := by decide +kernel
theorem dX9_init_501 : decode cX9_init 501 = .ok (.newarray .int, 2) := by decide +kernel
theorem dX9_init_503 : decode cX9_init 503 = .ok (.putfield 160, 3) := by decide +kernel
theorem dX9_init_506 : decode cX9_init 506 = .ok (.aload_n 0, 1) := by decide +kernel
theorem dX9_init_507 : decode cX9_init 507 = .ok (.iconst 4, 1) := by decide +kernel
theorem dX9_init_508 : decode cX9_init 508 = .ok (.newarray .int, 2) := by decide +kernel
theorem dX9_init_510 : decode cX9_init 510 = .ok (.putfield 163, 3) := by decide +kernel
theorem dX9_init_513 : decode cX9_init 513 = .ok (.aload_n 0, 1) := by decide +kernel
theorem dX9_init_514 : decode cX9_init 514 = .ok (.iconst 4, 1) := by decide +kernel
theorem dX9_init_515 : decode cX9_init 515 = .ok (.newarray .int, 2) := by decide +kernel
theorem dX9_init_517 : decode cX9_init 517 = .ok (.putfield 166, 3) := by decide +kernel
theorem dX9_init_520 : decode cX9_init 520 = .ok (.aload_n 0, 1) := by decide +kernel
theorem dX9_init_521 : decode cX9_init 521 = .ok (.iconst 4, 1) := by decide +kernel
theorem dX9_init_522 : decode cX9_init 522 = .ok (.newarray .int, 2) := by decide +kernel
theorem dX9_init_524 : decode cX9_init 524 = .ok (.putfield 169, 3) := by decide +kernel
theorem dX9_init_527 : decode cX9_init 527 = .ok (.aload_n 0, 1) := by decide +kernel
theorem dX9_init_528 : decode cX9_init 528 = .ok (.iconst 4, 1) := by decide +kernel
theorem dX9_init_529 : decode cX9_init 529 = .ok (.newarray .int, 2) := by decide +kernel
theorem dX9_init_531 : decode cX9_init 531 = .ok (.putfield 172, 3) := by decide +kernel
theorem dX9_init_534 : decode cX9_init 534 = .ok (.aload_n 0, 1) := by decide +kernel
theorem dX9_init_535 : decode cX9_init 535 = .ok (.bipush 24, 2) := by decide +kernel
theorem dX9_init_537 : decode cX9_init 537 = .ok (.newarray .int, 2) := by decide +kernel
theorem dX9_init_539 : decode cX9_init 539 = .ok (.putfield 175, 3) := by decide +kernel
theorem dX9_init_542 : decode cX9_init 542 = .ok (.aload_n 0, 1) := by decide +kernel
theorem dX9_init_543 : decode cX9_init 543 = .ok (.bipush 12, 2) := by decide +kernel
theorem dX9_init_545 : decode cX9_init 545 = .ok (.newarray .int, 2) := by decide +kernel
theorem dX9_init_547 : decode cX9_init 547 = .ok (.putfield 178, 3) := by decide +kernel
theorem dX9_init_550 : decode cX9_init 550 = .ok (.aload_n 0, 1) := by decide +kernel
theorem dX9_init_551 : decode cX9_init 551 = .ok (.bipush 12, 2) := by decide +kernel
theorem dX9_init_553 : decode cX9_init 553 = .ok (.newarray .int, 2) := by decide +kernel
theorem dX9_init_555 : decode cX9_init 555 = .ok (.putfield 181, 3) := by decide +kernel
theorem dX9_init_558 : decode cX9_init 558 = .ok (.aload_n 0, 1) := by decide +kernel
theorem dX9_init_559 : decode cX9_init 559 = .ok (.iconst 0, 1) := by decide +kernel
theorem dX9_init_560 : decode cX9_init 560 = .ok (.putfield 184, 3) := by decide +kernel
theorem dX9_init_563 : decode cX9_init 563 = .ok (.aload_n 0, 1) := by decide +kernel
theorem dX9_init_564 : decode cX9_init 564 = .ok (.bipush 20, 2) := by decide +kernel
theorem dX9_init_566 : decode cX9_init 566 = .ok (.newarray .int, 2) := by decide +kernel
theorem dX9_init_568 : decode cX9_init 568 = .ok (.putfield 187, 3) := by decide +kernel
theorem dX9_init_571 : decode cX9_init 571 = .ok (.aload_n 0, 1) := by decide +kernel
theorem dX9_init_572 : decode cX9_init 572 = .ok (.bipush 6, 2) := by decide +kernel
theorem dX9_init_574 : decode cX9_init 574 = .ok (.newarray .int, 2) := by decide +kernel
theorem dX9_init_576 : decode cX9_init 576 = .ok (.dup, 1) := by decide +kernel
theorem dX9_init_577 : decode cX9_init 577 = .ok (.iconst 0, 1) := by decide +kernel
theorem dX9_init_578 : decode cX9_init 578 = .ok (.iconst (-1), 1) := by decide +kernel
theorem dX9_init_579 : decode cX9_init 579 = .ok (.iastore, 1) := by decide +kernel
theorem dX9_init_580 : decode cX9_init 580 = .ok (.dup, 1) := by decide +kernel
theorem dX9_init_581 : decode cX9_init 581 = .ok (.iconst 1, 1) := by decide +kernel
theorem dX9_init_582 : decode cX9_init 582 = .ok (.iconst (-1), 1) := by decide +kernel
theorem dX9_init_583 : decode cX9_init 583 = .ok (.iastore, 1) := by decide +kernel
theorem dX9_init_584 : decode cX9_init 584 = .ok (.dup, 1) := by decide +kernel
theorem dX9_init_585 : decode cX9_init 585 = .ok (.iconst 2, 1) := by decide +kernel
theorem dX9_init_586 : decode cX9_init 586 = .ok (.iconst (-1), 1) := by decide +kernel
theorem dX9_init_587 : decode cX9_init 587 = .ok (.iastore, 1) := by decide +kernel
theorem dX9_init_588 : decode cX9_init 588 = .ok (.dup, 1) := by decide +kernel
theorem dX9_init_589 : decode cX9_init 589 = .ok (.iconst 3, 1) := by decide +kernel
theorem dX9_init_590 : decode cX9_init 590 = .ok (.iconst (-1), 1) := by decide +kernel
theorem dX9_init_591 : decode cX9_init 591 = .ok (.iastore, 1) := by decide +kernel
theorem dX9_init_592 : decode cX9_init 592 = .ok (.dup, 1) := by decide +kernel
theorem dX9_init_593 : decode cX9_init 593 = .ok (.iconst 4, 1) := by decide +kernel
theorem dX9_init_594 : decode cX9_init 594 = .ok (.iconst (-1), 1) := by decide +kernel
theorem dX9_init_595 : decode cX9_init 595 = .ok (.iastore, 1) := by decide +kernel
theorem dX9_init_596 : decode cX9_init 596 = .ok (.dup, 1) := by decide +kernel
theorem dX9_init_597 : decode cX9_init 597 = .ok (.iconst 5, 1) := by decide +kernel
theorem dX9_init_598 : decode cX9_init 598 = .ok (.iconst (-1), 1) := by decide +kernel
theorem dX9_init_599 : decode cX9_init 599 = .ok (.iastore, 1) := by decide +kernel
theorem dX9_init_600 : decode cX9_init 600 = .ok (.putfield 190, 3) := by decide +kernel
theorem dX9_init_603 : decode cX9_init 603 = .ok (.aload_n 0, 1) := by decide +kernel
theorem dX9_init_604 : decode cX9_init 604 = .ok (.bipush 6, 2) := by decide +kernel
theorem dX9_init_606 : decode cX9_init 606 = .ok (.newarray .int, 2) := by decide +kernel
theorem dX9_init_608 : decode cX9_init 608 = .ok (.putfield 193, 3) := by decide +kernel
theorem dX9_init_611 : decode cX9_init 611 = .ok (.aload_n 0, 1) := by decide +kernel
theorem dX9_init_612 : decode cX9_init 612 = .ok (.sipush 360, 3) := by decide +kernel
theorem dX9_init_615 : decode cX9_init 615 = .ok (.newarray .long, 2) := by decide +kernel
theorem dX9_init_617 : decode cX9_init 617 = .ok (.putfield 196, 3) := by decide +kernel
theorem dX9_init_620 : decode cX9_init 620 = .ok (.aload_n 0, 1) := by decide +kernel
theorem dX9_init_621 : decode cX9_init 621 = .ok (.bipush 60, 2) := by decide +kernel
theorem dX9_init_623 : decode cX9_init 623 = .ok (.newarray .long, 2) := by decide +kernel
theorem dX9_init_625 : decode cX9_init 625 = .ok (.putfield 200, 3) := by decide +kernel
theorem dX9_init_628 : decode cX9_init 628 = .ok (.return_, 1) := by decide +kernel
theorem dX9_in_0 : decode cX9_in 0 = .ok (.iload_n 1, 1) := by decide +kernel
theorem dX9_in_1 : decode cX9_in 1 = .ok (.iload_n 2, 1) := by decide +kernel
theorem dX9_in_2 : decode cX9_in 2 = .ok (.if_icmp .lt 12, 3) := by decide +kernel
theorem dX9_in_5 : decode cX9_in 5 = .ok (.iload_n 1, 1) := by decide +kernel
theorem dX9_in_6 : decode cX9_in 6 = .ok (.iload_n 3, 1) := by decide +kernel
theorem dX9_in_7 : decode cX9_in 7 = .ok (.if_icmp .gt 7, 3) := by decide +kernel
theorem dX9_in_10 : decode cX9_in 10 = .ok (.iconst 1, 1) := by decide +kernel
theorem dX9_in_11 : decode cX9_in 11 = .ok (.goto 4, 3) := by decide +kernel
theorem dX9_in_14 : decode cX9_in 14 = .ok (.iconst 0, 1) := by decide +kernel
theorem dX9_in_15 : decode cX9_in 15 = .ok (.ireturn, 1) := by decide +kernel
theorem dX9_isDoor_0 : decode cX9_isDoor 0 = .ok (.aload_n 0, 1) := by decide +kernel
theorem dX9_isDoor_1 : decode cX9_isDoor 1 = .ok (.iload_n 1, 1) := by decide +kernel
theorem dX9_isDoor_2 : decode cX9_isDoor 2 = .ok (.iconst 0, 1) := by decide +kernel
theorem dX9_isDoor_3 : decode cX9_isDoor 3 = .ok (.aload_n 0, 1) := by decide +kernel
theorem dX9_isDoor_4 : decode cX9_isDoor 4 = .ok (.getfield 13, 3) := by decide +kernel
theorem dX9_isDoor_7 : decode cX9_isDoor 7 = .ok (.iconst 1, 1) := by decide +kernel
theorem dX9_isDoor_8 : decode cX9_isDoor 8 = .ok (.isub, 1) := by decide +kernel
theorem dX9_isDoor_9 : decode cX9_isDoor 9 = .ok (.invokevirtual 203, 3) := by decide +kernel
theorem dX9_isDoor_12 : decode cX9_isDoor 12 = .ok (.ireturn, 1) := by decide +kernel
theorem dX9_isSpot_0 : decode cX9_isSpot 0 = .ok (.aload_n 0, 1) := by decide +kernel
theorem dX9_isSpot_1 : decode cX9_isSpot 1 = .ok (.iload_n 1, 1) := by decide +kernel
theorem dX9_isSpot_2 : decode cX9_isSpot 2 = .ok (.iconst 0, 1) := by decide +kernel
theorem dX9_isSpot_3 : decode cX9_isSpot 3 = .ok (.iconst 5, 1) := by decide +kernel
theorem dX9_isSpot_4 : decode cX9_isSpot 4 = .ok (.invokevirtual 203, 3) := by decide +kernel
theorem dX9_isSpot_7 : decode cX9_isSpot 7 = .ok (.ireturn, 1) := by decide +kernel
theorem dX9_air_0 : decode cX9_air 0 = .ok (.aload_n 0, 1) := by decide +kernel
theorem dX9_air_1 : decode cX9_air 1 = .ok (.iload_n 1, 1) := by decide +kernel
theorem dX9_air_2 : decode cX9_air 2 = .ok (.iconst 0, 1) := by decide +kernel
theorem dX9_air_3 : decode cX9_air 3 = .ok (.bipush 11, 2) := by decide +kernel
theorem dX9_air_5 : decode cX9_air 5 = .ok (.invokevirtual 203, 3) := by decide +kernel
theorem dX9_air_8 : decode cX9_air 8 = .ok (.ifCond .ne 5, 3) := by decide +kernel
theorem dX9_air_11 : decode cX9_air 11 = .ok (.iconst (-1), 1) := by decide +kernel
theorem dX9_air_12 : decode cX9_air 12 = .ok (.ireturn, 1) := by decide +kernel
theorem dX9_air_13 : decode cX9_air 13 = .ok (.aload_n 0, 1) := by decide +kernel
theorem dX9_air_14 : decode cX9_air 14 = .ok (.iload_n 2, 1) := by decide +kernel
theorem dX9_air_15 : decode cX9_air 15 = .ok (.iconst 0, 1) := by decide +kernel
theorem dX9_air_16 : decode cX9_air 16 = .ok (.bipush 99, 2) := by decide +kernel
theorem dX9_air_18 : decode cX9_air 18 = .ok (.invokevirtual 203, 3) := by decide +kernel
theorem dX9_air_21 : decode cX9_air 21 = .ok (.ifCond .ne 6, 3) := by decide +kernel
theorem dX9_air_24 : decode cX9_air 24 = .ok (.bipush (-2), 2) := by decide +kernel
theorem dX9_air_26 : decode cX9_air 26 = .ok (.ireturn, 1) := by decide +kernel
theorem dX9_air_27 : decode cX9_air 27 = .ok (.aload_n 0, 1) := by decide +kernel
theorem dX9_air_28 : decode cX9_air 28 = .ok (.getfield 7, 3) := by decide +kernel
theorem dX9_air_31 : decode cX9_air 31 = .ok (.iload_n 1, 1) := by decide +kernel
theorem dX9_air_32 : decode cX9_air 32 = .ok (.iaload, 1) := by decide +kernel
theorem dX9_air_33 : decode cX9_air 33 = .ok (.istore_n 3, 1) := by decide +kernel
theorem dX9_air_34 : decode cX9_air 34 = .ok (.aload_n 0, 1) := by decide +kernel
theorem dX9_air_35 : decode cX9_air 35 = .ok (.getfield 7, 3) := by decide +kernel
theorem dX9_air_38 : decode cX9_air 38 = .ok (.iload_n 1, 1) := by decide +kernel
theorem dX9_air_39 : decode cX9_air 39 = .ok (.iload_n 2, 1) := by decide +kernel
theorem dX9_air_40 : decode cX9_air 40 = .ok (.iastore, 1) := by decide +kernel
theorem dX9_air_41 : decode cX9_air 41 = .ok (.iload_n 3, 1) := by decide +kernel
theorem dX9_air_42 : decode cX9_air 42 = .ok (.ireturn, 1) := by decide +kernel
theorem dX9_lean_0 : decode cX9_lean 0 = .ok (.aload_n 0, 1) := by decide +kernel
theorem dX9_lean_1 : decode cX9_lean 1 = .ok (.iload_n 1, 1) := by decide +kernel
theorem dX9_lean_2 : decode cX9_lean 2 = .ok (.iconst 0, 1) := by decide +kernel
theorem dX9_lean_3 : decode cX9_lean 3 = .ok (.bipush 20, 2) := by decide +kernel
theorem dX9_lean_5 : decode cX9_lean 5 = .ok (.invokevirtual 203, 3) := by decide +kernel
theorem dX9_lean_8 : decode cX9_lean 8 = .ok (.ifCond .ne 6, 3) := by decide +kernel
theorem dX9_lean_11 : decode cX9_lean 11 = .ok (.bipush (-2), 2) := by decide +kernel
theorem dX9_lean_13 : decode cX9_lean 13 = .ok (.ireturn, 1) := by decide +kernel
theorem dX9_lean_14 : decode cX9_lean 14 = .ok (.aload_n 0, 1) := by decide +kernel
theorem dX9_lean_15 : decode cX9_lean 15 = .ok (.getfield 17, 3) := by decide +kernel
theorem dX9_lean_18 : decode cX9_lean 18 = .ok (.istore_n 2, 1) := by decide +kernel
theorem dX9_lean_19 : decode cX9_lean 19 = .ok (.aload_n 0, 1) := by decide +kernel
theorem dX9_lean_20 : decode cX9_lean 20 = .ok (.iload_n 1, 1) := by decide +kernel
theorem dX9_lean_21 : decode cX9_lean 21 = .ok (.putfield 17, 3) := by decide +kernel
theorem dX9_lean_24 : decode cX9_lean 24 = .ok (.iload_n 2, 1) := by decide +kernel
theorem dX9_lean_25 : decode cX9_lean 25 = .ok (.ireturn, 1) := by decide +kernel
theorem dX9_door_0 : decode cX9_door 0 = .ok (.aload_n 0, 1) := by decide +kernel
theorem dX9_door_1 : decode cX9_door 1 = .ok (.iload_n 1, 1) := by decide +kernel
theorem dX9_door_2 : decode cX9_door 2 = .ok (.iconst 0, 1) := by decide +kernel
theorem dX9_door_3 : decode cX9_door 3 = .ok (.bipush 6, 2) := by decide +kernel
theorem dX9_door_5 : decode cX9_door 5 = .ok (.invokevirtual 203, 3) := by decide +kernel
theorem dX9_door_8 : decode cX9_door 8 = .ok (.ifCond .ne 5, 3) := by decide +kernel
theorem dX9_door_11 : decode cX9_door 11 = .ok (.iconst (-1), 1) := by decide +kernel
theorem dX9_door_12 : decode cX9_door 12 = .ok (.ireturn, 1) := by decide +kernel
theorem dX9_door_13 : decode cX9_door 13 = .ok (.aload_n 0, 1) := by decide +kernel
theorem dX9_door_14 : decode cX9_door 14 = .ok (.iload_n 2, 1) := by decide +kernel
theorem dX9_door_15 : decode cX9_door 15 = .ok (.iconst 0, 1) := by decide +kernel
theorem dX9_door_16 : decode cX9_door 16 = .ok (.bipush 9, 2) := by decide +kernel
theorem dX9_door_18 : decode cX9_door 18 = .ok (.invokevirtual 203, 3) := by decide +kernel
theorem dX9_door_21 : decode cX9_door 21 = .ok (.ifCond .ne 6, 3) := by decide +kernel
theorem dX9_door_24 : decode cX9_door 24 = .ok (.bipush (-2), 2) := by decide +kernel
theorem dX9_door_26 : decode cX9_door 26 = .ok (.ireturn, 1) := by decide +kernel
theorem dX9_door_27 : decode cX9_door 27 = .ok (.aload_n 0, 1) := by decide +kernel
theorem dX9_door_28 : decode cX9_door 28 = .ok (.getfield 13, 3) := by decide +kernel
theorem dX9_door_31 : decode cX9_door 31 = .ok (.iconst 4, 1) := by decide +kernel
theorem dX9_door_32 : decode cX9_door 32 = .ok (.if_icmp .ne 6, 3) := by decide +kernel
theorem dX9_door_35 : decode cX9_door 35 = .ok (.bipush (-4), 2) := by decide +kernel
theorem dX9_door_37 : decode cX9_door 37 = .ok (.ireturn, 1) := by decide +kernel
theorem dX9_door_38 : decode cX9_door 38 = .ok (.aload_n 0, 1) := by decide +kernel
theorem dX9_door_39 : decode cX9_door 39 = .ok (.getfield 13, 3) := by decide +kernel
theorem dX9_door_42 : decode cX9_door 42 = .ok (.istore_n 3, 1) := by decide +kernel
theorem dX9_door_43 : decode cX9_door 43 = .ok (.aload_n 0, 1) := by decide +kernel
theorem dX9_door_44 : decode cX9_door 44 = .ok (.getfield 23, 3) := by decide +kernel
theorem dX9_door_47 : decode cX9_door 47 = .ok (.iload_n 3, 1) := by decide +kernel
theorem dX9_door_48 : decode cX9_door 48 = .ok (.iload_n 1, 1) := by decide +kernel
theorem dX9_door_49 : decode cX9_door 49 = .ok (.iastore, 1) := by decide +kernel
theorem dX9_door_50 : decode cX9_door 50 = .ok (.aload_n 0, 1) := by decide +kernel
theorem dX9_door_51 : decode cX9_door 51 = .ok (.getfield 26, 3) := by decide +kernel
theorem dX9_door_54 : decode cX9_door 54 = .ok (.iload_n 3, 1) := by decide +kernel
theorem dX9_door_55 : decode cX9_door 55 = .ok (.iload_n 2, 1) := by decide +kernel
theorem dX9_door_56 : decode cX9_door 56 = .ok (.iastore, 1) := by decide +kernel
theorem dX9_door_57 : decode cX9_door 57 = .ok (.aload_n 0, 1) := by decide +kernel
theorem dX9_door_58 : decode cX9_door 58 = .ok (.getfield 29, 3) := by decide +kernel
theorem dX9_door_61 : decode cX9_door 61 = .ok (.iload_n 3, 1) := by decide +kernel
theorem dX9_door_62 : decode cX9_door 62 = .ok (.bipush 50, 2) := by decide +kernel
theorem dX9_door_64 : decode cX9_door 64 = .ok (.iastore, 1) := by decide +kernel
theorem dX9_door_65 : decode cX9_door 65 = .ok (.aload_n 0, 1) := by decide +kernel
theorem dX9_door_66 : decode cX9_door 66 = .ok (.getfield 32, 3) := by decide +kernel
theorem dX9_door_69 : decode cX9_door 69 = .ok (.iload_n 3, 1) := by decide +kernel
theorem dX9_door_70 : decode cX9_door 70 = .ok (.bipush 50, 2) := by decide +kernel
theorem dX9_door_72 : decode cX9_door 72 = .ok (.iastore, 1) := by decide +kernel
theorem dX9_door_73 : decode cX9_door 73 = .ok (.aload_n 0, 1) := by decide +kernel
theorem dX9_door_74 : decode cX9_door 74 = .ok (.getfield 35, 3) := by decide +kernel
theorem dX9_door_77 : decode cX9_door 77 = .ok (.iload_n 3, 1) := by decide +kernel
theorem dX9_door_78 : decode cX9_door 78 = .ok (.iconst 0, 1) := by decide +kernel
theorem dX9_door_79 : decode cX9_door 79 = .ok (.iastore, 1) := by decide +kernel
theorem dX9_door_80 : decode cX9_door 80 = .ok (.aload_n 0, 1) := by decide +kernel
theorem dX9_door_81 : decode cX9_door 81 = .ok (.getfield 38, 3) := by decide +kernel
theorem dX9_door_84 : decode cX9_door 84 = .ok (.iload_n 3, 1) := by decide +kernel
theorem dX9_door_85 : decode cX9_door 85 = .ok (.iconst 0, 1) := by decide +kernel
theorem dX9_door_86 : decode cX9_door 86 = .ok (.iastore, 1) := by decide +kernel
theorem dX9_door_87 : decode cX9_door 87 = .ok (.aload_n 0, 1) := by decide +kernel
theorem dX9_door_88 : decode cX9_door 88 = .ok (.getfield 41, 3) := by decide +kernel
theorem dX9_door_91 : decode cX9_door 91 = .ok (.iload_n 3, 1) := by decide +kernel
theorem dX9_door_92 : decode cX9_door 92 = .ok (.iconst 0, 1) := by decide +kernel
theorem dX9_door_93 : decode cX9_door 93 = .ok (.iastore, 1) := by decide +kernel
theorem dX9_door_94 : decode cX9_door 94 = .ok (.iconst 0, 1) := by decide +kernel
theorem dX9_door_95 : decode cX9_door 95 = .ok (.istore 4, 2) := by decide +kernel
theorem dX9_door_97 : decode cX9_door 97 = .ok (.iload 4, 2) := by decide +kernel
theorem dX9_door_99 : decode cX9_door 99 = .ok (.bipush 6, 2) := by decide +kernel
theorem dX9_door_101 : decode cX9_door 101 = .ok (.if_icmp .ge 22, 3) := by decide +kernel
theorem dX9_door_104 : decode cX9_door 104 = .ok (.aload_n 0, 1) := by decide +kernel
theorem dX9_door_105 : decode cX9_door 105 = .ok (.getfield 44, 3) := by decide +kernel
theorem dX9_door_108 : decode cX9_door 108 = .ok (.bipush 6, 2) := by decide +kernel
theorem dX9_door_110 : decode cX9_door 110 = .ok (.iload_n 3, 1) := by decide +kernel
theorem dX9_door_111 : decode cX9_door 111 = .ok (.imul, 1) := by decide +kernel
theorem dX9_door_112 : decode cX9_door 112 = .ok (.iload 4, 2) := by decide +kernel
theorem dX9_door_114 : decode cX9_door 114 = .ok (.iadd, 1) := by decide +kernel
theorem dX9_door_115 : decode cX9_door 115 = .ok (.iconst 4, 1) := by decide +kernel
theorem dX9_door_116 : decode cX9_door 116 = .ok (.iastore, 1) := by decide +kernel
theorem dX9_door_117 : decode cX9_door 117 = .ok (.iinc 4 1, 3) := by decide +kernel
theorem dX9_door_120 : decode cX9_door 120 = .ok (.goto (-23), 3) := by decide +kernel
theorem dX9_door_123 : decode cX9_door 123 = .ok (.aload_n 0, 1) := by decide +kernel
theorem dX9_door_124 : decode cX9_door 124 = .ok (.dup, 1) := by decide +kernel
theorem dX9_door_125 : decode cX9_door 125 = .ok (.getfield 13, 3) := by decide +kernel
theorem dX9_door_128 : decode cX9_door 128 = .ok (.iconst 1, 1) := by decide +kernel
theorem dX9_door_129 : decode cX9_door 129 = .ok (.iadd, 1) := by decide +kernel
theorem dX9_door_130 : decode cX9_door 130 = .ok (.putfield 13, 3) := by decide +kernel
theorem dX9_door_133 : decode cX9_door 133 = .ok (.iload_n 3, 1) := by decide +kernel
theorem dX9_door_134 : decode cX9_door 134 = .ok (.ireturn, 1) := by decide +kernel
theorem dX9_water_0 : decode cX9_water 0 = .ok (.aload_n 0, 1) := by decide +kernel
theorem dX9_water_1 : decode cX9_water 1 = .ok (.iload_n 1, 1) := by decide +kernel
theorem dX9_water_2 : decode cX9_water 2 = .ok (.invokevirtual 207, 3) := by decide +kernel
theorem dX9_water_5 : decode cX9_water 5 = .ok (.ifCond .eq 13, 3) := by decide +kernel
theorem dX9_water_8 : decode cX9_water 8 = .ok (.aload_n 0, 1) := by decide +kernel
theorem dX9_water_9 : decode cX9_water 9 = .ok (.iload_n 2, 1) := by decide +kernel
theorem dX9_water_10 : decode cX9_water 10 = .ok (.iconst 0, 1) := by decide +kernel
theorem dX9_water_11 : decode cX9_water 11 = .ok (.iconst 1, 1) := by decide +kernel
theorem dX9_water_12 : decode cX9_water 12 = .ok (.invokevirtual 203, 3) := by decide +kernel
theorem dX9_water_15 : decode cX9_water 15 = .ok (.ifCond .ne 5, 3) := by decide +kernel
theorem dX9_water_18 : decode cX9_water 18 = .ok (.iconst (-1), 1) := by decide +kernel
theorem dX9_water_19 : decode cX9_water 19 = .ok (.ireturn, 1) := by decide +kernel
theorem dX9_water_20 : decode cX9_water 20 = .ok (.aload_n 0, 1) := by decide +kernel
theorem dX9_water_21 : decode cX9_water 21 = .ok (.iload_n 3, 1) := by decide +kernel
theorem dX9_water_22 : decode cX9_water 22 = .ok (.iconst 0, 1) := by decide +kernel
theorem dX9_water_23 : decode cX9_water 23 = .ok (.bipush 99, 2) := by decide +kernel
theorem dX9_water_25 : decode cX9_water 25 = .ok (.invokevirtual 203, 3) := by decide +kernel
theorem dX9_water_28 : decode cX9_water 28 = .ok (.ifCond .ne 6, 3) := by decide +kernel
theorem dX9_water_31 : decode cX9_water 31 = .ok (.bipush (-2), 2) := by decide +kernel
theorem dX9_water_33 : decode cX9_water 33 = .ok (.ireturn, 1) := by decide +kernel
theorem dX9_water_34 : decode cX9_water 34 = .ok (.iload_n 2, 1) := by decide +kernel
theorem dX9_water_35 : decode cX9_water 35 = .ok (.ifCond .ne 12, 3) := by decide +kernel
theorem dX9_water_38 : decode cX9_water 38 = .ok (.aload_n 0, 1) := by decide +kernel
theorem dX9_water_39 : decode cX9_water 39 = .ok (.getfield 29, 3) := by decide +kernel
theorem dX9_water_42 : decode cX9_water 42 = .ok (.iload_n 1, 1) := by decide +kernel
theorem dX9_water_43 : decode cX9_water 43 = .ok (.iaload, 1) := by decide +kernel
theorem dX9_water_44 : decode cX9_water 44 = .ok (.goto 9, 3) := by decide +kernel
theorem dX9_water_47 : decode cX9_water 47 = .ok (.aload_n 0, 1) := by decide +kernel
theorem dX9_water_48 : decode cX9_water 48 = .ok (.getfield 32, 3) := by decide +kernel
theorem dX9_water_51 : decode cX9_water 51 = .ok (.iload_n 1, 1) := by decide +kernel
theorem dX9_water_52 : decode cX9_water 52 = .ok (.iaload, 1) := by decide +kernel
theorem dX9_water_53 : decode cX9_water 53 = .ok (.istore 4, 2) := by decide +kernel
theorem dX9_water_55 : decode cX9_water 55 = .ok (.iload_n 2, 1) := by decide +kernel
theorem dX9_water_56 : decode cX9_water 56 = .ok (.ifCond .ne 13, 3) := by decide +kernel
theorem dX9_water_59 : decode cX9_water 59 = .ok (.aload_n 0, 1) := by decide +kernel
theorem dX9_water_60 : decode cX9_water 60 = .ok (.getfield 29, 3) := by decide +kernel
theorem dX9_water_63 : decode cX9_water 63 = .ok (.iload_n 1, 1) := by decide +kernel
theorem dX9_water_64 : decode cX9_water 64 = .ok (.iload_n 3, 1) := by decide +kernel
theorem dX9_water_65 : decode cX9_water 65 = .ok (.iastore, 1) := by decide +kernel
theorem dX9_water_66 : decode cX9_water 66 = .ok (.goto 10, 3) := by decide +kernel
theorem dX9_water_69 : decode cX9_water 69 = .ok (.aload_n 0, 1) := by decide +kernel
theorem dX9_water_70 : decode cX9_water 70 = .ok (.getfield 32, 3) := by decide +kernel
theorem dX9_water_73 : decode cX9_water 73 = .ok (.iload_n 1, 1) := by decide +kernel
theorem dX9_water_74 : decode cX9_water 74 = .ok (.iload_n 3, 1) := by decide +kernel
theorem dX9_water_75 : decode cX9_water 75 = .ok (.iastore, 1) := by decide +kernel
theorem dX9_water_76 : decode cX9_water 76 = .ok (.iload 4, 2) := by decide +kernel
theorem dX9_water_78 : decode cX9_water 78 = .ok (.ireturn, 1) := by decide +kernel
theorem dX9_sag_0 : decode cX9_sag 0 = .ok (.aload_n 0, 1) := by decide +kernel
theorem dX9_sag_1 : decode cX9_sag 1 = .ok (.iload_n 1, 1) := by decide +kernel
theorem dX9_sag_2 : decode cX9_sag 2 = .ok (.invokevirtual 207, 3) := by decide +kernel
theorem dX9_sag_5 : decode cX9_sag 5 = .ok (.ifCond .ne 5, 3) := by decide +kernel
theorem dX9_sag_8 : decode cX9_sag 8 = .ok (.iconst (-1), 1) := by decide +kernel
theorem dX9_sag_9 : decode cX9_sag 9 = .ok (.ireturn, 1) := by decide +kernel
theorem dX9_sag_10 : decode cX9_sag 10 = .ok (.aload_n 0, 1) := by decide +kernel
theorem dX9_sag_11 : decode cX9_sag 11 = .ok (.iload_n 2, 1) := by decide +kernel
theorem dX9_sag_12 : decode cX9_sag 12 = .ok (.iconst 0, 1) := by decide +kernel
theorem dX9_sag_13 : decode cX9_sag 13 = .ok (.bipush 20, 2) := by decide +kernel
theorem dX9_sag_15 : decode cX9_sag 15 = .ok (.invokevirtual 203, 3) := by decide +kernel
theorem dX9_sag_18 : decode cX9_sag 18 = .ok (.ifCond .ne 6, 3) := by decide +kernel
theorem dX9_sag_21 : decode cX9_sag 21 = .ok (.bipush (-2), 2) := by decide +kernel
theorem dX9_sag_23 : decode cX9_sag 23 = .ok (.ireturn, 1) := by decide +kernel
theorem dX9_sag_24 : decode cX9_sag 24 = .ok (.aload_n 0, 1) := by decide +kernel
theorem dX9_sag_25 : decode cX9_sag 25 = .ok (.getfield 38, 3) := by decide +kernel
theorem dX9_sag_28 : decode cX9_sag 28 = .ok (.iload_n 1, 1) := by decide +kernel
theorem dX9_sag_29 : decode cX9_sag 29 = .ok (.iaload, 1) := by decide +kernel
theorem dX9_sag_30 : decode cX9_sag 30 = .ok (.istore_n 3, 1) := by decide +kernel
theorem dX9_sag_31 : decode cX9_sag 31 = .ok (.aload_n 0, 1) := by decide +kernel
theorem dX9_sag_32 : decode cX9_sag 32 = .ok (.getfield 38, 3) := by decide +kernel
theorem dX9_sag_35 : decode cX9_sag 35 = .ok (.iload_n 1, 1) := by decide +kernel
theorem dX9_sag_36 : decode cX9_sag 36 = .ok (.iload_n 2, 1) := by decide +kernel
theorem dX9_sag_37 : decode cX9_sag 37 = .ok (.iastore, 1) := by decide +kernel
theorem dX9_sag_38 : decode cX9_sag 38 = .ok (.iload_n 3, 1) := by decide +kernel
theorem dX9_sag_39 : decode cX9_sag 39 = .ok (.ireturn, 1) := by decide +kernel
theorem dX9_feed_0 : decode cX9_feed 0 = .ok (.aload_n 0, 1) := by decide +kernel
theorem dX9_feed_1 : decode cX9_feed 1 = .ok (.iload_n 1, 1) := by decide +kernel
theorem dX9_feed_2 : decode cX9_feed 2 = .ok (.iconst 0, 1) := by decide +kernel
theorem dX9_feed_3 : decode cX9_feed 3 = .ok (.bipush 127, 2) := by decide +kernel
theorem dX9_feed_5 : decode cX9_feed 5 = .ok (.invokevirtual 203, 3) := by decide +kernel
theorem dX9_feed_8 : decode cX9_feed 8 = .ok (.ifCond .ne 6, 3) := by decide +kernel
theorem dX9_feed_11 : decode cX9_feed 11 = .ok (.bipush (-2), 2) := by decide +kernel
theorem dX9_feed_13 : decode cX9_feed 13 = .ok (.ireturn, 1) := by decide +kernel
theorem dX9_feed_14 : decode cX9_feed 14 = .ok (.aload_n 0, 1) := by decide +kernel
theorem dX9_feed_15 : decode cX9_feed 15 = .ok (.getfield 53, 3) := by decide +kernel
theorem dX9_feed_18 : decode cX9_feed 18 = .ok (.bipush 100, 2) := by decide +kernel
theorem dX9_feed_20 : decode cX9_feed 20 = .ok (.if_icmp .ne 6, 3) := by decide +kernel
theorem dX9_feed_23 : decode cX9_feed 23 = .ok (.bipush (-4), 2) := by decide +kernel
theorem dX9_feed_25 : decode cX9_feed 25 = .ok (.ireturn, 1) := by decide +kernel
theorem dX9_feed_26 : decode cX9_feed 26 = .ok (.aload_n 0, 1) := by decide +kernel
theorem dX9_feed_27 : decode cX9_feed 27 = .ok (.getfield 62, 3) := by decide +kernel
theorem dX9_feed_30 : decode cX9_feed 30 = .ok (.aload_n 0, 1) := by decide +kernel
theorem dX9_feed_31 : decode cX9_feed 31 = .ok (.getfield 53, 3) := by decide +kernel
theorem dX9_feed_34 : decode cX9_feed 34 = .ok (.iload_n 1, 1) := by decide +kernel
theorem dX9_feed_35 : decode cX9_feed 35 = .ok (.iastore, 1) := by decide +kernel
theorem dX9_feed_36 : decode cX9_feed 36 = .ok (.aload_n 0, 1) := by decide +kernel
theorem dX9_feed_37 : decode cX9_feed 37 = .ok (.dup, 1) := by decide +kernel
theorem dX9_feed_38 : decode cX9_feed 38 = .ok (.getfield 53, 3) := by decide +kernel
theorem dX9_feed_41 : decode cX9_feed 41 = .ok (.iconst 1, 1) := by decide +kernel
theorem dX9_feed_42 : decode cX9_feed 42 = .ok (.iadd, 1) := by decide +kernel
theorem dX9_feed_43 : decode cX9_feed 43 = .ok (.putfield 53, 3) := by decide +kernel
theorem dX9_feed_46 : decode cX9_feed 46 = .ok (.aload_n 0, 1) := by decide +kernel
theorem dX9_feed_47 : decode cX9_feed 47 = .ok (.getfield 53, 3) := by decide +kernel
theorem dX9_feed_50 : decode cX9_feed 50 = .ok (.ireturn, 1) := by decide +kernel
theorem dX9_next_0 : decode cX9_next 0 = .ok (.aload_n 0, 1) := by decide +kernel
theorem dX9_next_1 : decode cX9_next 1 = .ok (.getfield 56, 3) := by decide +kernel
theorem dX9_next_4 : decode cX9_next 4 = .ok (.aload_n 0, 1) := by decide +kernel
theorem dX9_next_5 : decode cX9_next 5 = .ok (.getfield 53, 3) := by decide +kernel
theorem dX9_next_8 : decode cX9_next 8 = .ok (.if_icmp .ge 15, 3) := by decide +kernel
theorem dX9_next_11 : decode cX9_next 11 = .ok (.aload_n 0, 1) := by decide +kernel
theorem dX9_next_12 : decode cX9_next 12 = .ok (.getfield 62, 3) := by decide +kernel
theorem dX9_next_15 : decode cX9_next 15 = .ok (.aload_n 0, 1) := by decide +kernel
theorem dX9_next_16 : decode cX9_next 16 = .ok (.getfield 56, 3) := by decide +kernel
theorem dX9_next_19 : decode cX9_next 19 = .ok (.iaload, 1) := by decide +kernel
theorem dX9_next_20 : decode cX9_next 20 = .ok (.goto 4, 3) := by decide +kernel
theorem dX9_next_23 : decode cX9_next 23 = .ok (.iconst (-1), 1) := by decide +kernel
theorem dX9_next_24 : decode cX9_next 24 = .ok (.ireturn, 1) := by decide +kernel
theorem dX9_second_0 : decode cX9_second 0 = .ok (.aload_n 0, 1) := by decide +kernel
theorem dX9_second_1 : decode cX9_second 1 = .ok (.getfield 56, 3) := by decide +kernel
theorem dX9_second_4 : decode cX9_second 4 = .ok (.iconst 1, 1) := by decide +kernel
theorem dX9_second_5 : decode cX9_second 5 = .ok (.iadd, 1) := by decide +kernel
theorem dX9_second_6 : decode cX9_second 6 = .ok (.aload_n 0, 1) := by decide +kernel
theorem dX9_second_7 : decode cX9_second 7 = .ok (.getfield 53, 3) := by decide +kernel
theorem dX9_second_10 : decode cX9_second 10 = .ok (.if_icmp .ge 17, 3) := by decide +kernel
theorem dX9_second_13 : decode cX9_second 13 = .ok (.aload_n 0, 1) := by decide +kernel
theorem dX9_second_14 : decode cX9_second 14 = .ok (.getfield 62, 3) := by decide +kernel
theorem dX9_second_17 : decode cX9_second 17 = .ok (.aload_n 0, 1) := by decide +kernel
theorem dX9_second_18 : decode cX9_second 18 = .ok (.getfield 56, 3) := by decide +kernel
theorem dX9_second_21 : decode cX9_second 21 = .ok (.iconst 1, 1) := by decide +kernel
theorem dX9_second_22 : decode cX9_second 22 = .ok (.iadd, 1) := by decide +kernel
theorem dX9_second_23 : decode cX9_second 23 = .ok (.iaload, 1) := by decide +kernel
theorem dX9_second_24 : decode cX9_second 24 = .ok (.goto 4, 3) := by decide +kernel
theorem dX9_second_27 : decode cX9_second 27 = .ok (.iconst (-1), 1) := by decide +kernel
theorem dX9_second_28 : decode cX9_second 28 = .ok (.ireturn, 1) := by decide +kernel
theorem dX9_takes_0 : decode cX9_takes 0 = .ok (.aload_n 0, 1) := by decide +kernel
theorem dX9_takes_1 : decode cX9_takes 1 = .ok (.invokevirtual 211, 3) := by decide +kernel
theorem dX9_takes_4 : decode cX9_takes 4 = .ok (.iload_n 1, 1) := by decide +kernel
theorem dX9_takes_5 : decode cX9_takes 5 = .ok (.if_icmp .eq 5, 3) := by decide +kernel
theorem dX9_takes_8 : decode cX9_takes 8 = .ok (.iconst 0, 1) := by decide +kernel
theorem dX9_takes_9 : decode cX9_takes 9 = .ok (.ireturn, 1) := by decide +kernel
theorem dX9_takes_10 : decode cX9_takes 10 = .ok (.aload_n 0, 1) := by decide +kernel
theorem dX9_takes_11 : decode cX9_takes 11 = .ok (.dup, 1) := by decide +kernel
theorem dX9_takes_12 : decode cX9_takes 12 = .ok (.getfield 56, 3) := by decide +kernel
theorem dX9_takes_15 : decode cX9_takes 15 = .ok (.iconst 1, 1) := by decide +kernel
theorem dX9_takes_16 : decode cX9_takes 16 = .ok (.iadd, 1) := by decide +kernel
theorem dX9_takes_17 : decode cX9_takes 17 = .ok (.putfield 56, 3) := by decide +kernel
theorem dX9_takes_20 : decode cX9_takes 20 = .ok (.iconst 1, 1) := by decide +kernel
theorem dX9_takes_21 : decode cX9_takes 21 = .ok (.ireturn, 1) := by decide +kernel
theorem dX9_takesWord_0 : decode cX9_takesWord 0 = .ok (.iconst 0, 1) := by decide +kernel
theorem dX9_takesWord_1 : decode cX9_takesWord 1 = .ok (.istore_n 3, 1) := by decide +kernel
theorem dX9_takesWord_2 : decode cX9_takesWord 2 = .ok (.iload_n 3, 1) := by decide +kernel
theorem dX9_takesWord_3 : decode cX9_takesWord 3 = .ok (.iload_n 2, 1) := by decide +kernel
theorem dX9_takesWord_4 : decode cX9_takesWord 4 = .ok (.if_icmp .ge 26, 3) := by decide +kernel
theorem dX9_takesWord_7 : decode cX9_takesWord 7 = .ok (.aload_n 0, 1) := by decide +kernel
theorem dX9_takesWord_8 : decode cX9_takesWord 8 = .ok (.aload_n 0, 1) := by decide +kernel
theorem dX9_takesWord_9 : decode cX9_takesWord 9 = .ok (.getfield 95, 3) := by decide +kernel
theorem dX9_takesWord_12 : decode cX9_takesWord 12 = .ok (.iload_n 1, 1) := by decide +kernel
theorem dX9_takesWord_13 : decode cX9_takesWord 13 = .ok (.iload_n 3, 1) := by decide +kernel
theorem dX9_takesWord_14 : decode cX9_takesWord 14 = .ok (.iadd, 1) := by decide +kernel
theorem dX9_takesWord_15 : decode cX9_takesWord 15 = .ok (.iaload, 1) := by decide +kernel
theorem dX9_takesWord_16 : decode cX9_takesWord 16 = .ok (.invokevirtual 215, 3) := by decide +kernel
theorem dX9_takesWord_19 : decode cX9_takesWord 19 = .ok (.ifCond .ne 5, 3) := by decide +kernel
theorem dX9_takesWord_22 : decode cX9_takesWord 22 = .ok (.iconst 0, 1) := by decide +kernel
theorem dX9_takesWord_23 : decode cX9_takesWord 23 = .ok (.ireturn, 1) := by decide +kernel
theorem dX9_takesWord_24 : decode cX9_takesWord 24 = .ok (.iinc 3 1, 3) := by decide +kernel
theorem dX9_takesWord_27 : decode cX9_takesWord 27 = .ok (.goto (-25), 3) := by decide +kernel
theorem dX9_takesWord_30 : decode cX9_takesWord 30 = .ok (.aload_n 0, 1) := by decide +kernel
theorem dX9_takesWord_31 : decode cX9_takesWord 31 = .ok (.bipush 32, 2) := by decide +kernel
theorem dX9_takesWord_33 : decode cX9_takesWord 33 = .ok (.invokevirtual 215, 3) := by decide +kernel
theorem dX9_takesWord_36 : decode cX9_takesWord 36 = .ok (.ireturn, 1) := by decide +kernel
theorem dX9_isDigit_0 : decode cX9_isDigit 0 = .ok (.aload_n 0, 1) := by decide +kernel
theorem dX9_isDigit_1 : decode cX9_isDigit 1 = .ok (.aload_n 0, 1) := by decide +kernel
theorem dX9_isDigit_2 : decode cX9_isDigit 2 = .ok (.invokevirtual 211, 3) := by decide +kernel
theorem dX9_isDigit_5 : decode cX9_isDigit 5 = .ok (.bipush 48, 2) := by decide +kernel
theorem dX9_isDigit_7 : decode cX9_isDigit 7 = .ok (.bipush 57, 2) := by decide +kernel
theorem dX9_isDigit_9 : decode cX9_isDigit 9 = .ok (.invokevirtual 203, 3) := by decide +kernel
theorem dX9_isDigit_12 : decode cX9_isDigit 12 = .ok (.ireturn, 1) := by decide +kernel
theorem dX9_takesNumber_0 : decode cX9_takesNumber 0 = .ok (.aload_n 0, 1) := by decide +kernel
theorem dX9_takesNumber_1 : decode cX9_takesNumber 1 = .ok (.invokevirtual 218, 3) := by decide +kernel
theorem dX9_takesNumber_4 : decode cX9_takesNumber 4 = .ok (.ifCond .ne 5, 3) := by decide +kernel
theorem dX9_takesNumber_7 : decode cX9_takesNumber 7 = .ok (.iconst 0, 1) := by decide +kernel
theorem dX9_takesNumber_8 : decode cX9_takesNumber 8 = .ok (.ireturn, 1) := by decide +kernel
theorem dX9_takesNumber_9 : decode cX9_takesNumber 9 = .ok (.aload_n 0, 1) := by decide +kernel
theorem dX9_takesNumber_10 : decode cX9_takesNumber 10 = .ok (.iconst 0, 1) := by decide +kernel
theorem dX9_takesNumber_11 : decode cX9_takesNumber 11 = .ok (.putfield 59, 3) := by decide +kernel
theorem dX9_takesNumber_14 : decode cX9_takesNumber 14 = .ok (.iconst 0, 1) := by decide +kernel
theorem dX9_takesNumber_15 : decode cX9_takesNumber 15 = .ok (.istore_n 1, 1) := by decide +kernel
theorem dX9_takesNumber_16 : decode cX9_takesNumber 16 = .ok (.iload_n 1, 1) := by decide +kernel
theorem dX9_takesNumber_17 : decode cX9_takesNumber 17 = .ok (.iconst 2, 1) := by decide +kernel
theorem dX9_takesNumber_18 : decode cX9_takesNumber 18 = .ok (.if_icmp .ge 45, 3) := by decide +kernel
theorem dX9_takesNumber_21 : decode cX9_takesNumber 21 = .ok (.aload_n 0, 1) := by decide +kernel
theorem dX9_takesNumber_22 : decode cX9_takesNumber 22 = .ok (.invokevirtual 218, 3) := by decide +kernel
theorem dX9_takesNumber_25 : decode cX9_takesNumber 25 = .ok (.ifCond .eq 38, 3) := by decide +kernel
theorem dX9_takesNumber_28 : decode cX9_takesNumber 28 = .ok (.aload_n 0, 1) := by decide +kernel
theorem dX9_takesNumber_29 : decode cX9_takesNumber 29 = .ok (.bipush 10, 2) := by decide +kernel
theorem dX9_takesNumber_31 : decode cX9_takesNumber 31 = .ok (.aload_n 0, 1) := by decide +kernel
theorem dX9_takesNumber_32 : decode cX9_takesNumber 32 = .ok (.getfield 59, 3) := by decide +kernel
theorem dX9_takesNumber_35 : decode cX9_takesNumber 35 = .ok (.imul, 1) := by decide +kernel
theorem dX9_takesNumber_36 : decode cX9_takesNumber 36 = .ok (.aload_n 0, 1) := by decide +kernel
theorem dX9_takesNumber_37 : decode cX9_takesNumber 37 = .ok (.invokevirtual 211, 3) := by decide +kernel
theorem dX9_takesNumber_40 : decode cX9_takesNumber 40 = .ok (.iadd, 1) := by decide +kernel
theorem dX9_takesNumber_41 : decode cX9_takesNumber 41 = .ok (.bipush 48, 2) := by decide +kernel
theorem dX9_takesNumber_43 : decode cX9_takesNumber 43 = .ok (.isub, 1) := by decide +kernel
theorem dX9_takesNumber_44 : decode cX9_takesNumber 44 = .ok (.putfield 59, 3) := by decide +kernel
theorem dX9_takesNumber_47 : decode cX9_takesNumber 47 = .ok (.aload_n 0, 1) := by decide +kernel
theorem dX9_takesNumber_48 : decode cX9_takesNumber 48 = .ok (.dup, 1) := by decide +kernel
theorem dX9_takesNumber_49 : decode cX9_takesNumber 49 = .ok (.getfield 56, 3) := by decide +kernel
theorem dX9_takesNumber_52 : decode cX9_takesNumber 52 = .ok (.iconst 1, 1) := by decide +kernel
theorem dX9_takesNumber_53 : decode cX9_takesNumber 53 = .ok (.iadd, 1) := by decide +kernel
theorem dX9_takesNumber_54 : decode cX9_takesNumber 54 = .ok (.putfield 56, 3) := by decide +kernel
theorem dX9_takesNumber_57 : decode cX9_takesNumber 57 = .ok (.iinc 1 1, 3) := by decide +kernel
theorem dX9_takesNumber_60 : decode cX9_takesNumber 60 = .ok (.goto (-44), 3) := by decide +kernel
theorem dX9_takesNumber_63 : decode cX9_takesNumber 63 = .ok (.iconst 1, 1) := by decide +kernel
theorem dX9_takesNumber_64 : decode cX9_takesNumber 64 = .ok (.ireturn, 1) := by decide +kernel
theorem dX9_put_0 : decode cX9_put 0 = .ok (.aload_n 0, 1) := by decide +kernel
theorem dX9_put_1 : decode cX9_put 1 = .ok (.getfield 80, 3) := by decide +kernel
theorem dX9_put_4 : decode cX9_put 4 = .ok (.aload_n 0, 1) := by decide +kernel
theorem dX9_put_5 : decode cX9_put 5 = .ok (.getfield 86, 3) := by decide +kernel
theorem dX9_put_8 : decode cX9_put 8 = .ok (.iload_n 1, 1) := by decide +kernel
theorem dX9_put_9 : decode cX9_put 9 = .ok (.iastore, 1) := by decide +kernel
theorem dX9_put_10 : decode cX9_put 10 = .ok (.aload_n 0, 1) := by decide +kernel
theorem dX9_put_11 : decode cX9_put 11 = .ok (.dup, 1) := by decide +kernel
theorem dX9_put_12 : decode cX9_put 12 = .ok (.getfield 86, 3) := by decide +kernel
theorem dX9_put_15 : decode cX9_put 15 = .ok (.iconst 1, 1) := by decide +kernel
theorem dX9_put_16 : decode cX9_put 16 = .ok (.iadd, 1) := by decide +kernel
theorem dX9_put_17 : decode cX9_put 17 = .ok (.putfield 86, 3) := by decide +kernel
theorem dX9_put_20 : decode cX9_put 20 = .ok (.return_, 1) := by decide +kernel
theorem dX9_whole_0 : decode cX9_whole 0 = .ok (.aload_n 0, 1) := by decide +kernel
theorem dX9_whole_1 : decode cX9_whole 1 = .ok (.getfield 89, 3) := by decide +kernel
theorem dX9_whole_4 : decode cX9_whole 4 = .ok (.ifCond .le 48, 3) := by decide +kernel
theorem dX9_whole_7 : decode cX9_whole 7 = .ok (.aload_n 0, 1) := by decide +kernel
theorem dX9_whole_8 : decode cX9_whole 8 = .ok (.getfield 83, 3) := by decide +kernel
theorem dX9_whole_11 : decode cX9_whole 11 = .ok (.aload_n 0, 1) := by decide +kernel
theorem dX9_whole_12 : decode cX9_whole 12 = .ok (.getfield 89, 3) := by decide +kernel
theorem dX9_whole_15 : decode cX9_whole 15 = .ok (.iconst 1, 1) := by decide +kernel
theorem dX9_whole_16 : decode cX9_whole 16 = .ok (.isub, 1) := by decide +kernel
theorem dX9_whole_17 : decode cX9_whole 17 = .ok (.iaload, 1) := by decide +kernel
theorem dX9_whole_18 : decode cX9_whole 18 = .ok (.bipush 33, 2) := by decide +kernel
theorem dX9_whole_20 : decode cX9_whole 20 = .ok (.if_icmp .ne 32, 3) := by decide +kernel
theorem dX9_whole_23 : decode cX9_whole 23 = .ok (.aload_n 0, 1) := by decide +kernel
theorem dX9_whole_24 : decode cX9_whole 24 = .ok (.bipush (-33), 2) := by decide +kernel
theorem dX9_whole_26 : decode cX9_whole 26 = .ok (.invokevirtual 222, 3) := by decide +kernel
theorem dX9_whole_29 : decode cX9_whole 29 = .ok (.aload_n 0, 1) := by decide +kernel
theorem dX9_whole_30 : decode cX9_whole 30 = .ok (.dup, 1) := by decide +kernel
theorem dX9_whole_31 : decode cX9_whole 31 = .ok (.getfield 89, 3) := by decide +kernel
theorem dX9_whole_34 : decode cX9_whole 34 = .ok (.iconst 1, 1) := by decide +kernel
theorem dX9_whole_35 : decode cX9_whole 35 = .ok (.isub, 1) := by decide +kernel
theorem dX9_whole_36 : decode cX9_whole 36 = .ok (.putfield 89, 3) := by decide +kernel
theorem dX9_whole_39 : decode cX9_whole 39 = .ok (.aload_n 0, 1) := by decide +kernel
theorem dX9_whole_40 : decode cX9_whole 40 = .ok (.dup, 1) := by decide +kernel
theorem dX9_whole_41 : decode cX9_whole 41 = .ok (.getfield 92, 3) := by decide +kernel
theorem dX9_whole_44 : decode cX9_whole 44 = .ok (.iconst 1, 1) := by decide +kernel
theorem dX9_whole_45 : decode cX9_whole 45 = .ok (.isub, 1) := by decide +kernel
theorem dX9_whole_46 : decode cX9_whole 46 = .ok (.putfield 92, 3) := by decide +kernel
theorem dX9_whole_49 : decode cX9_whole 49 = .ok (.goto (-49), 3) := by decide +kernel
theorem dX9_whole_52 : decode cX9_whole 52 = .ok (.return_, 1) := by decide +kernel
theorem dX9_settle_0 : decode cX9_settle 0 = .ok (.aload_n 0, 1) := by decide +kernel
theorem dX9_settle_1 : decode cX9_settle 1 = .ok (.getfield 89, 3) := by decide +kernel
theorem dX9_settle_4 : decode cX9_settle 4 = .ok (.ifCond .le 68, 3) := by decide +kernel
theorem dX9_settle_7 : decode cX9_settle 7 = .ok (.aload_n 0, 1) := by decide +kernel
theorem dX9_settle_8 : decode cX9_settle 8 = .ok (.getfield 83, 3) := by decide +kernel
theorem dX9_settle_11 : decode cX9_settle 11 = .ok (.aload_n 0, 1) := by decide +kernel
theorem dX9_settle_12 : decode cX9_settle 12 = .ok (.getfield 89, 3) := by decide +kernel
theorem dX9_settle_15 : decode cX9_settle 15 = .ok (.iconst 1, 1) := by decide +kernel
theorem dX9_settle_16 : decode cX9_settle 16 = .ok (.isub, 1) := by decide +kernel
theorem dX9_settle_17 : decode cX9_settle 17 = .ok (.iaload, 1) := by decide +kernel
theorem dX9_settle_18 : decode cX9_settle 18 = .ok (.bipush 38, 2) := by decide +kernel
theorem dX9_settle_20 : decode cX9_settle 20 = .ok (.if_icmp .eq 25, 3) := by decide +kernel
theorem dX9_settle_23 : decode cX9_settle 23 = .ok (.aload_n 0, 1) := by decide +kernel
theorem dX9_settle_24 : decode cX9_settle 24 = .ok (.getfield 83, 3) := by decide +kernel
theorem dX9_settle_27 : decode cX9_settle 27 = .ok (.aload_n 0, 1) := by decide +kernel
theorem dX9_settle_28 : decode cX9_settle 28 = .ok (.getfield 89, 3) := by decide +kernel
theorem dX9_settle_31 : decode cX9_settle 31 = .ok (.iconst 1, 1) := by decide +kernel
theorem dX9_settle_32 : decode cX9_settle 32 = .ok (.isub, 1) := by decide +kernel
theorem dX9_settle_33 : decode cX9_settle 33 = .ok (.iaload, 1) := by decide +kernel
theorem dX9_settle_34 : decode cX9_settle 34 = .ok (.bipush 124, 2) := by decide +kernel
theorem dX9_settle_36 : decode cX9_settle 36 = .ok (.if_icmp .ne 36, 3) := by decide +kernel
theorem dX9_settle_39 : decode cX9_settle 39 = .ok (.iload_n 1, 1) := by decide +kernel
theorem dX9_settle_40 : decode cX9_settle 40 = .ok (.bipush 38, 2) := by decide +kernel
theorem dX9_settle_42 : decode cX9_settle 42 = .ok (.if_icmp .eq 30, 3) := by decide +kernel
theorem dX9_settle_45 : decode cX9_settle 45 = .ok (.aload_n 0, 1) := by decide +kernel
theorem dX9_settle_46 : decode cX9_settle 46 = .ok (.dup, 1) := by decide +kernel
theorem dX9_settle_47 : decode cX9_settle 47 = .ok (.getfield 89, 3) := by decide +kernel
theorem dX9_settle_50 : decode cX9_settle 50 = .ok (.iconst 1, 1) := by decide +kernel
theorem dX9_settle_51 : decode cX9_settle 51 = .ok (.isub, 1) := by decide +kernel
theorem dX9_settle_52 : decode cX9_settle 52 = .ok (.putfield 89, 3) := by decide +kernel
theorem dX9_settle_55 : decode cX9_settle 55 = .ok (.aload_n 0, 1) := by decide +kernel
theorem dX9_settle_56 : decode cX9_settle 56 = .ok (.aload_n 0, 1) := by decide +kernel
theorem dX9_settle_57 : decode cX9_settle 57 = .ok (.getfield 83, 3) := by decide +kernel
theorem dX9_settle_60 : decode cX9_settle 60 = .ok (.aload_n 0, 1) := by decide +kernel
theorem dX9_settle_61 : decode cX9_settle 61 = .ok (.getfield 89, 3) := by decide +kernel
theorem dX9_settle_64 : decode cX9_settle 64 = .ok (.iaload, 1) := by decide +kernel
theorem dX9_settle_65 : decode cX9_settle 65 = .ok (.ineg, 1) := by decide +kernel
theorem dX9_settle_66 : decode cX9_settle 66 = .ok (.invokevirtual 222, 3) := by decide +kernel
theorem dX9_settle_69 : decode cX9_settle 69 = .ok (.goto (-69), 3) := by decide +kernel
theorem dX9_settle_72 : decode cX9_settle 72 = .ok (.return_, 1) := by decide +kernel
theorem dX9_place_0 : decode cX9_place 0 = .ok (.iload_n 1, 1) := by decide +kernel
theorem dX9_place_1 : decode cX9_place 1 = .ok (.tableswitch 107 100 119 #[97, 107, 107, 107, 107, 107, 107, 95, 107, 105, 107, 107, 103, 107, 107, 101, 107, 107, 107, 99], 95) := by decide +kernel
theorem dX9_place_96 : decode cX9_place 96 = .ok (.iconst 0, 1) := by decide +kernel
theorem dX9_place_97 : decode cX9_place 97 = .ok (.ireturn, 1) := by decide +kernel
theorem dX9_place_98 : decode cX9_place 98 = .ok (.iconst 1, 1) := by decide +kernel
theorem dX9_place_99 : decode cX9_place 99 = .ok (.ireturn, 1) := by decide +kernel
theorem dX9_place_100 : decode cX9_place 100 = .ok (.iconst 2, 1) := by decide +kernel
theorem dX9_place_101 : decode cX9_place 101 = .ok (.ireturn, 1) := by decide +kernel
theorem dX9_place_102 : decode cX9_place 102 = .ok (.iconst 3, 1) := by decide +kernel
theorem dX9_place_103 : decode cX9_place 103 = .ok (.ireturn, 1) := by decide +kernel
theorem dX9_place_104 : decode cX9_place 104 = .ok (.iconst 4, 1) := by decide +kernel
theorem dX9_place_105 : decode cX9_place 105 = .ok (.ireturn, 1) := by decide +kernel
theorem dX9_place_106 : decode cX9_place 106 = .ok (.iconst 5, 1) := by decide +kernel
theorem dX9_place_107 : decode cX9_place 107 = .ok (.ireturn, 1) := by decide +kernel
theorem dX9_place_108 : decode cX9_place 108 = .ok (.iconst (-1), 1) := by decide +kernel
theorem dX9_place_109 : decode cX9_place 109 = .ok (.ireturn, 1) := by decide +kernel
theorem dX9_takesTest_0 : decode cX9_takesTest 0 = .ok (.aload_n 0, 1) := by decide +kernel
theorem dX9_takesTest_1 : decode cX9_takesTest 1 = .ok (.aload_n 0, 1) := by decide +kernel
theorem dX9_takesTest_2 : decode cX9_takesTest 2 = .ok (.invokevirtual 211, 3) := by decide +kernel
theorem dX9_takesTest_5 : decode cX9_takesTest 5 = .ok (.invokevirtual 226, 3) := by decide +kernel
theorem dX9_takesTest_8 : decode cX9_takesTest 8 = .ok (.istore_n 1, 1) := by decide +kernel
theorem dX9_takesTest_9 : decode cX9_takesTest 9 = .ok (.iload_n 1, 1) := by decide +kernel
theorem dX9_takesTest_10 : decode cX9_takesTest 10 = .ok (.ifCond .ge 5, 3) := by decide +kernel
theorem dX9_takesTest_13 : decode cX9_takesTest 13 = .ok (.iconst 0, 1) := by decide +kernel
theorem dX9_takesTest_14 : decode cX9_takesTest 14 = .ok (.ireturn, 1) := by decide +kernel
theorem dX9_takesTest_15 : decode cX9_takesTest 15 = .ok (.aload_n 0, 1) := by decide +kernel
theorem dX9_takesTest_16 : decode cX9_takesTest 16 = .ok (.dup, 1) := by decide +kernel
theorem dX9_takesTest_17 : decode cX9_takesTest 17 = .ok (.getfield 56, 3) := by decide +kernel
theorem dX9_takesTest_20 : decode cX9_takesTest 20 = .ok (.iconst 1, 1) := by decide +kernel
theorem dX9_takesTest_21 : decode cX9_takesTest 21 = .ok (.iadd, 1) := by decide +kernel
theorem dX9_takesTest_22 : decode cX9_takesTest 22 = .ok (.putfield 56, 3) := by decide +kernel
theorem dX9_takesTest_25 : decode cX9_takesTest 25 = .ok (.aload_n 0, 1) := by decide +kernel
theorem dX9_takesTest_26 : decode cX9_takesTest 26 = .ok (.invokevirtual 211, 3) := by decide +kernel
theorem dX9_takesTest_29 : decode cX9_takesTest 29 = .ok (.istore_n 2, 1) := by decide +kernel
theorem dX9_takesTest_30 : decode cX9_takesTest 30 = .ok (.aload_n 0, 1) := by decide +kernel
theorem dX9_takesTest_31 : decode cX9_takesTest 31 = .ok (.iload_n 2, 1) := by decide +kernel
theorem dX9_takesTest_32 : decode cX9_takesTest 32 = .ok (.bipush 60, 2) := by decide +kernel
theorem dX9_takesTest_34 : decode cX9_takesTest 34 = .ok (.bipush 62, 2) := by decide +kernel
theorem dX9_takesTest_36 : decode cX9_takesTest 36 = .ok (.invokevirtual 203, 3) := by decide +kernel
theorem dX9_takesTest_39 : decode cX9_takesTest 39 = .ok (.ifCond .ne 5, 3) := by decide +kernel
theorem dX9_takesTest_42 : decode cX9_takesTest 42 = .ok (.iconst 0, 1) := by decide +kernel
theorem dX9_takesTest_43 : decode cX9_takesTest 43 = .ok (.ireturn, 1) := by decide +kernel
theorem dX9_takesTest_44 : decode cX9_takesTest 44 = .ok (.aload_n 0, 1) := by decide +kernel
theorem dX9_takesTest_45 : decode cX9_takesTest 45 = .ok (.dup, 1) := by decide +kernel
theorem dX9_takesTest_46 : decode cX9_takesTest 46 = .ok (.getfield 56, 3) := by decide +kernel
theorem dX9_takesTest_49 : decode cX9_takesTest 49 = .ok (.iconst 1, 1) := by decide +kernel
theorem dX9_takesTest_50 : decode cX9_takesTest 50 = .ok (.iadd, 1) := by decide +kernel
theorem dX9_takesTest_51 : decode cX9_takesTest 51 = .ok (.putfield 56, 3) := by decide +kernel
theorem dX9_takesTest_54 : decode cX9_takesTest 54 = .ok (.aload_n 0, 1) := by decide +kernel
theorem dX9_takesTest_55 : decode cX9_takesTest 55 = .ok (.invokevirtual 230, 3) := by decide +kernel
theorem dX9_takesTest_58 : decode cX9_takesTest 58 = .ok (.ifCond .ne 5, 3) := by decide +kernel
theorem dX9_takesTest_61 : decode cX9_takesTest 61 = .ok (.iconst 0, 1) := by decide +kernel
theorem dX9_takesTest_62 : decode cX9_takesTest 62 = .ok (.ireturn, 1) := by decide +kernel
theorem dX9_takesTest_63 : decode cX9_takesTest 63 = .ok (.aload_n 0, 1) := by decide +kernel
theorem dX9_takesTest_64 : decode cX9_takesTest 64 = .ok (.sipush 1000, 3) := by decide +kernel
theorem dX9_takesTest_67 : decode cX9_takesTest 67 = .ok (.iload_n 1, 1) := by decide +kernel
theorem dX9_takesTest_68 : decode cX9_takesTest 68 = .ok (.imul, 1) := by decide +kernel
theorem dX9_takesTest_69 : decode cX9_takesTest 69 = .ok (.bipush 100, 2) := by decide +kernel
theorem dX9_takesTest_71 : decode cX9_takesTest 71 = .ok (.iload_n 2, 1) := by decide +kernel
theorem dX9_takesTest_72 : decode cX9_takesTest 72 = .ok (.bipush 60, 2) := by decide +kernel
theorem dX9_takesTest_74 : decode cX9_takesTest 74 = .ok (.isub, 1) := by decide +kernel
theorem dX9_takesTest_75 : decode cX9_takesTest 75 = .ok (.imul, 1) := by decide +kernel
theorem dX9_takesTest_76 : decode cX9_takesTest 76 = .ok (.iadd, 1) := by decide +kernel
theorem dX9_takesTest_77 : decode cX9_takesTest 77 = .ok (.aload_n 0, 1) := by decide +kernel
theorem dX9_takesTest_78 : decode cX9_takesTest 78 = .ok (.getfield 59, 3) := by decide +kernel
theorem dX9_takesTest_81 : decode cX9_takesTest 81 = .ok (.iadd, 1) := by decide +kernel
theorem dX9_takesTest_82 : decode cX9_takesTest 82 = .ok (.invokevirtual 222, 3) := by decide +kernel
theorem dX9_takesTest_85 : decode cX9_takesTest 85 = .ok (.aload_n 0, 1) := by decide +kernel
theorem dX9_takesTest_86 : decode cX9_takesTest 86 = .ok (.invokevirtual 233, 3) := by decide +kernel
theorem dX9_takesTest_89 : decode cX9_takesTest 89 = .ok (.iconst 1, 1) := by decide +kernel
theorem dX9_takesTest_90 : decode cX9_takesTest 90 = .ok (.ireturn, 1) := by decide +kernel
theorem dX9_takesE_0 : decode cX9_takesE 0 = .ok (.aload_n 0, 1) := by decide +kernel
theorem dX9_takesE_1 : decode cX9_takesE 1 = .ok (.iconst 0, 1) := by decide +kernel
theorem dX9_takesE_2 : decode cX9_takesE 2 = .ok (.putfield 89, 3) := by decide +kernel
theorem dX9_takesE_5 : decode cX9_takesE 5 = .ok (.aload_n 0, 1) := by decide +kernel
theorem dX9_takesE_6 : decode cX9_takesE 6 = .ok (.iconst 0, 1) := by decide +kernel
theorem dX9_takesE_7 : decode cX9_takesE 7 = .ok (.putfield 92, 3) := by decide +kernel
theorem dX9_takesE_10 : decode cX9_takesE 10 = .ok (.aload_n 0, 1) := by decide +kernel
theorem dX9_takesE_11 : decode cX9_takesE 11 = .ok (.getfield 74, 3) := by decide +kernel
theorem dX9_takesE_14 : decode cX9_takesE 14 = .ok (.iload_n 1, 1) := by decide +kernel
theorem dX9_takesE_15 : decode cX9_takesE 15 = .ok (.aload_n 0, 1) := by decide +kernel
theorem dX9_takesE_16 : decode cX9_takesE 16 = .ok (.getfield 86, 3) := by decide +kernel
theorem dX9_takesE_19 : decode cX9_takesE 19 = .ok (.iastore, 1) := by decide +kernel
theorem dX9_takesE_20 : decode cX9_takesE 20 = .ok (.iconst 1, 1) := by decide +kernel
theorem dX9_takesE_21 : decode cX9_takesE 21 = .ok (.istore_n 2, 1) := by decide +kernel
theorem dX9_takesE_22 : decode cX9_takesE 22 = .ok (.aload_n 0, 1) := by decide +kernel
theorem dX9_takesE_23 : decode cX9_takesE 23 = .ok (.invokevirtual 211, 3) := by decide +kernel
theorem dX9_takesE_26 : decode cX9_takesE 26 = .ok (.istore_n 3, 1) := by decide +kernel
theorem dX9_takesE_27 : decode cX9_takesE 27 = .ok (.iload_n 2, 1) := by decide +kernel
theorem dX9_takesE_28 : decode cX9_takesE 28 = .ok (.ifCond .eq 82, 3) := by decide +kernel
theorem dX9_takesE_31 : decode cX9_takesE 31 = .ok (.iload_n 3, 1) := by decide +kernel
theorem dX9_takesE_32 : decode cX9_takesE 32 = .ok (.bipush 33, 2) := by decide +kernel
theorem dX9_takesE_34 : decode cX9_takesE 34 = .ok (.if_icmp .eq 9, 3) := by decide +kernel
theorem dX9_takesE_37 : decode cX9_takesE 37 = .ok (.iload_n 3, 1) := by decide +kernel
theorem dX9_takesE_38 : decode cX9_takesE 38 = .ok (.bipush 40, 2) := by decide +kernel
theorem dX9_takesE_40 : decode cX9_takesE 40 = .ok (.if_icmp .ne 56, 3) := by decide +kernel
theorem dX9_takesE_43 : decode cX9_takesE 43 = .ok (.aload_n 0, 1) := by decide +kernel
theorem dX9_takesE_44 : decode cX9_takesE 44 = .ok (.getfield 92, 3) := by decide +kernel
theorem dX9_takesE_47 : decode cX9_takesE 47 = .ok (.iconst 4, 1) := by decide +kernel
theorem dX9_takesE_48 : decode cX9_takesE 48 = .ok (.if_icmp .ne 5, 3) := by decide +kernel
theorem dX9_takesE_51 : decode cX9_takesE 51 = .ok (.iconst 0, 1) := by decide +kernel
theorem dX9_takesE_52 : decode cX9_takesE 52 = .ok (.ireturn, 1) := by decide +kernel
theorem dX9_takesE_53 : decode cX9_takesE 53 = .ok (.aload_n 0, 1) := by decide +kernel
theorem dX9_takesE_54 : decode cX9_takesE 54 = .ok (.dup, 1) := by decide +kernel
theorem dX9_takesE_55 : decode cX9_takesE 55 = .ok (.getfield 92, 3) := by decide +kernel
theorem dX9_takesE_58 : decode cX9_takesE 58 = .ok (.iconst 1, 1) := by decide +kernel
theorem dX9_takesE_59 : decode cX9_takesE 59 = .ok (.iadd, 1) := by decide +kernel
theorem dX9_takesE_60 : decode cX9_takesE 60 = .ok (.putfield 92, 3) := by decide +kernel
theorem dX9_takesE_63 : decode cX9_takesE 63 = .ok (.aload_n 0, 1) := by decide +kernel
theorem dX9_takesE_64 : decode cX9_takesE 64 = .ok (.getfield 83, 3) := by decide +kernel
theorem dX9_takesE_67 : decode cX9_takesE 67 = .ok (.aload_n 0, 1) := by decide +kernel
theorem dX9_takesE_68 : decode cX9_takesE 68 = .ok (.getfield 89, 3) := by decide +kernel
theorem dX9_takesE_71 : decode cX9_takesE 71 = .ok (.iload_n 3, 1) := by decide +kernel
theorem dX9_takesE_72 : decode cX9_takesE 72 = .ok (.iastore, 1) := by decide +kernel
theorem dX9_takesE_73 : decode cX9_takesE 73 = .ok (.aload_n 0, 1) := by decide +kernel
theorem dX9_takesE_74 : decode cX9_takesE 74 = .ok (.dup, 1) := by decide +kernel
theorem dX9_takesE_75 : decode cX9_takesE 75 = .ok (.getfield 89, 3) := by decide +kernel
theorem dX9_takesE_78 : decode cX9_takesE 78 = .ok (.iconst 1, 1) := by decide +kernel
theorem dX9_takesE_79 : decode cX9_takesE 79 = .ok (.iadd, 1) := by decide +kernel
theorem dX9_takesE_80 : decode cX9_takesE 80 = .ok (.putfield 89, 3) := by decide +kernel
theorem dX9_takesE_83 : decode cX9_takesE 83 = .ok (.aload_n 0, 1) := by decide +kernel
theorem dX9_takesE_84 : decode cX9_takesE 84 = .ok (.dup, 1) := by decide +kernel
theorem dX9_takesE_85 : decode cX9_takesE 85 = .ok (.getfield 56, 3) := by decide +kernel
theorem dX9_takesE_88 : decode cX9_takesE 88 = .ok (.iconst 1, 1) := by decide +kernel
theorem dX9_takesE_89 : decode cX9_takesE 89 = .ok (.iadd, 1) := by decide +kernel
theorem dX9_takesE_90 : decode cX9_takesE 90 = .ok (.putfield 56, 3) := by decide +kernel
theorem dX9_takesE_93 : decode cX9_takesE 93 = .ok (.goto (-71), 3) := by decide +kernel
theorem dX9_takesE_96 : decode cX9_takesE 96 = .ok (.aload_n 0, 1) := by decide +kernel
theorem dX9_takesE_97 : decode cX9_takesE 97 = .ok (.invokevirtual 236, 3) := by decide +kernel
theorem dX9_takesE_100 : decode cX9_takesE 100 = .ok (.ifCond .eq 8, 3) := by decide +kernel
theorem dX9_takesE_103 : decode cX9_takesE 103 = .ok (.iconst 0, 1) := by decide +kernel
theorem dX9_takesE_104 : decode cX9_takesE 104 = .ok (.istore_n 2, 1) := by decide +kernel
theorem dX9_takesE_105 : decode cX9_takesE 105 = .ok (.goto (-83), 3) := by decide +kernel
theorem dX9_takesE_108 : decode cX9_takesE 108 = .ok (.iconst 0, 1) := by decide +kernel
theorem dX9_takesE_109 : decode cX9_takesE 109 = .ok (.ireturn, 1) := by decide +kernel
theorem dX9_takesE_110 : decode cX9_takesE 110 = .ok (.iload_n 3, 1) := by decide +kernel
theorem dX9_takesE_111 : decode cX9_takesE 111 = .ok (.bipush 38, 2) := by decide +kernel
theorem dX9_takesE_113 : decode cX9_takesE 113 = .ok (.if_icmp .eq 9, 3) := by decide +kernel
theorem dX9_takesE_116 : decode cX9_takesE 116 = .ok (.iload_n 3, 1) := by decide +kernel
theorem dX9_takesE_117 : decode cX9_takesE 117 = .ok (.bipush 124, 2) := by decide +kernel
theorem dX9_takesE_119 : decode cX9_takesE 119 = .ok (.if_icmp .ne 43, 3) := by decide +kernel
theorem dX9_takesE_122 : decode cX9_takesE 122 = .ok (.aload_n 0, 1) := by decide +kernel
theorem dX9_takesE_123 : decode cX9_takesE 123 = .ok (.iload_n 3, 1) := by decide +kernel
theorem dX9_takesE_124 : decode cX9_takesE 124 = .ok (.invokevirtual 239, 3) := by decide +kernel
theorem dX9_takesE_127 : decode cX9_takesE 127 = .ok (.aload_n 0, 1) := by decide +kernel
theorem dX9_takesE_128 : decode cX9_takesE 128 = .ok (.getfield 83, 3) := by decide +kernel
theorem dX9_takesE_131 : decode cX9_takesE 131 = .ok (.aload_n 0, 1) := by decide +kernel
theorem dX9_takesE_132 : decode cX9_takesE 132 = .ok (.getfield 89, 3) := by decide +kernel
theorem dX9_takesE_135 : decode cX9_takesE 135 = .ok (.iload_n 3, 1) := by decide +kernel
theorem dX9_takesE_136 : decode cX9_takesE 136 = .ok (.iastore, 1) := by decide +kernel
theorem dX9_takesE_137 : decode cX9_takesE 137 = .ok (.aload_n 0, 1) := by decide +kernel
theorem dX9_takesE_138 : decode cX9_takesE 138 = .ok (.dup, 1) := by decide +kernel
theorem dX9_takesE_139 : decode cX9_takesE 139 = .ok (.getfield 89, 3) := by decide +kernel
theorem dX9_takesE_142 : decode cX9_takesE 142 = .ok (.iconst 1, 1) := by decide +kernel
theorem dX9_takesE_143 : decode cX9_takesE 143 = .ok (.iadd, 1) := by decide +kernel
theorem dX9_takesE_144 : decode cX9_takesE 144 = .ok (.putfield 89, 3) := by decide +kernel
theorem dX9_takesE_147 : decode cX9_takesE 147 = .ok (.iconst 1, 1) := by decide +kernel
theorem dX9_takesE_148 : decode cX9_takesE 148 = .ok (.istore_n 2, 1) := by decide +kernel
theorem dX9_takesE_149 : decode cX9_takesE 149 = .ok (.aload_n 0, 1) := by decide +kernel
theorem dX9_takesE_150 : decode cX9_takesE 150 = .ok (.dup, 1) := by decide +kernel
theorem dX9_takesE_151 : decode cX9_takesE 151 = .ok (.getfield 56, 3) := by decide +kernel
theorem dX9_takesE_154 : decode cX9_takesE 154 = .ok (.iconst 1, 1) := by decide +kernel
theorem dX9_takesE_155 : decode cX9_takesE 155 = .ok (.iadd, 1) := by decide +kernel
theorem dX9_takesE_156 : decode cX9_takesE 156 = .ok (.putfield 56, 3) := by decide +kernel
theorem dX9_takesE_159 : decode cX9_takesE 159 = .ok (.goto (-137), 3) := by decide +kernel
theorem dX9_takesE_162 : decode cX9_takesE 162 = .ok (.aload_n 0, 1) := by decide +kernel
theorem dX9_takesE_163 : decode cX9_takesE 163 = .ok (.bipush 124, 2) := by decide +kernel
theorem dX9_takesE_165 : decode cX9_takesE 165 = .ok (.invokevirtual 239, 3) := by decide +kernel
theorem dX9_takesE_168 : decode cX9_takesE 168 = .ok (.aload_n 0, 1) := by decide +kernel
theorem dX9_takesE_169 : decode cX9_takesE 169 = .ok (.getfield 77, 3) := by decide +kernel
theorem dX9_takesE_172 : decode cX9_takesE 172 = .ok (.iload_n 1, 1) := by decide +kernel
theorem dX9_takesE_173 : decode cX9_takesE 173 = .ok (.aload_n 0, 1) := by decide +kernel
theorem dX9_takesE_174 : decode cX9_takesE 174 = .ok (.getfield 86, 3) := by decide +kernel
theorem dX9_takesE_177 : decode cX9_takesE 177 = .ok (.iastore, 1) := by decide +kernel
theorem dX9_takesE_178 : decode cX9_takesE 178 = .ok (.aload_n 0, 1) := by decide +kernel
theorem dX9_takesE_179 : decode cX9_takesE 179 = .ok (.getfield 89, 3) := by decide +kernel
theorem dX9_takesE_182 : decode cX9_takesE 182 = .ok (.ifCond .ne 5, 3) := by decide +kernel
theorem dX9_takesE_185 : decode cX9_takesE 185 = .ok (.iconst 1, 1) := by decide +kernel
theorem dX9_takesE_186 : decode cX9_takesE 186 = .ok (.ireturn, 1) := by decide +kernel
theorem dX9_takesE_187 : decode cX9_takesE 187 = .ok (.iload_n 3, 1) := by decide +kernel
theorem dX9_takesE_188 : decode cX9_takesE 188 = .ok (.bipush 41, 2) := by decide +kernel
theorem dX9_takesE_190 : decode cX9_takesE 190 = .ok (.if_icmp .eq 5, 3) := by decide +kernel
theorem dX9_takesE_193 : decode cX9_takesE 193 = .ok (.iconst 0, 1) := by decide +kernel
theorem dX9_takesE_194 : decode cX9_takesE 194 = .ok (.ireturn, 1) := by decide +kernel
theorem dX9_takesE_195 : decode cX9_takesE 195 = .ok (.aload_n 0, 1) := by decide +kernel
theorem dX9_takesE_196 : decode cX9_takesE 196 = .ok (.dup, 1) := by decide +kernel
theorem dX9_takesE_197 : decode cX9_takesE 197 = .ok (.getfield 89, 3) := by decide +kernel
theorem dX9_takesE_200 : decode cX9_takesE 200 = .ok (.iconst 1, 1) := by decide +kernel
theorem dX9_takesE_201 : decode cX9_takesE 201 = .ok (.isub, 1) := by decide +kernel
theorem dX9_takesE_202 : decode cX9_takesE 202 = .ok (.putfield 89, 3) := by decide +kernel
theorem dX9_takesE_205 : decode cX9_takesE 205 = .ok (.aload_n 0, 1) := by decide +kernel
theorem dX9_takesE_206 : decode cX9_takesE 206 = .ok (.dup, 1) := by decide +kernel
theorem dX9_takesE_207 : decode cX9_takesE 207 = .ok (.getfield 92, 3) := by decide +kernel
theorem dX9_takesE_210 : decode cX9_takesE 210 = .ok (.iconst 1, 1) := by decide +kernel
theorem dX9_takesE_211 : decode cX9_takesE 211 = .ok (.isub, 1) := by decide +kernel
theorem dX9_takesE_212 : decode cX9_takesE 212 = .ok (.putfield 92, 3) := by decide +kernel
theorem dX9_takesE_215 : decode cX9_takesE 215 = .ok (.aload_n 0, 1) := by decide +kernel
theorem dX9_takesE_216 : decode cX9_takesE 216 = .ok (.dup, 1) := by decide +kernel
theorem dX9_takesE_217 : decode cX9_takesE 217 = .ok (.getfield 56, 3) := by decide +kernel
theorem dX9_takesE_220 : decode cX9_takesE 220 = .ok (.iconst 1, 1) := by decide +kernel
theorem dX9_takesE_221 : decode cX9_takesE 221 = .ok (.iadd, 1) := by decide +kernel
theorem dX9_takesE_222 : decode cX9_takesE 222 = .ok (.putfield 56, 3) := by decide +kernel
theorem dX9_takesE_225 : decode cX9_takesE 225 = .ok (.aload_n 0, 1) := by decide +kernel
theorem dX9_takesE_226 : decode cX9_takesE 226 = .ok (.invokevirtual 233, 3) := by decide +kernel
theorem dX9_takesE_229 : decode cX9_takesE 229 = .ok (.goto (-207), 3) := by decide +kernel
theorem dX9_third_0 : decode cX9_third 0 = .ok (.aload_n 0, 1) := by decide +kernel
theorem dX9_third_1 : decode cX9_third 1 = .ok (.getfield 56, 3) := by decide +kernel
theorem dX9_third_4 : decode cX9_third 4 = .ok (.iconst 2, 1) := by decide +kernel
theorem dX9_third_5 : decode cX9_third 5 = .ok (.iadd, 1) := by decide +kernel
theorem dX9_third_6 : decode cX9_third 6 = .ok (.aload_n 0, 1) := by decide +kernel
theorem dX9_third_7 : decode cX9_third 7 = .ok (.getfield 53, 3) := by decide +kernel
theorem dX9_third_10 : decode cX9_third 10 = .ok (.if_icmp .ge 17, 3) := by decide +kernel
theorem dX9_third_13 : decode cX9_third 13 = .ok (.aload_n 0, 1) := by decide +kernel
theorem dX9_third_14 : decode cX9_third 14 = .ok (.getfield 62, 3) := by decide +kernel
theorem dX9_third_17 : decode cX9_third 17 = .ok (.aload_n 0, 1) := by decide +kernel
theorem dX9_third_18 : decode cX9_third 18 = .ok (.getfield 56, 3) := by decide +kernel
theorem dX9_third_21 : decode cX9_third 21 = .ok (.iconst 2, 1) := by decide +kernel
theorem dX9_third_22 : decode cX9_third 22 = .ok (.iadd, 1) := by decide +kernel
theorem dX9_third_23 : decode cX9_third 23 = .ok (.iaload, 1) := by decide +kernel
theorem dX9_third_24 : decode cX9_third 24 = .ok (.goto 4, 3) := by decide +kernel
theorem dX9_third_27 : decode cX9_third 27 = .ok (.iconst (-1), 1) := by decide +kernel
theorem dX9_third_28 : decode cX9_third 28 = .ok (.ireturn, 1) := by decide +kernel
theorem dX9_fourth_0 : decode cX9_fourth 0 = .ok (.aload_n 0, 1) := by decide +kernel
theorem dX9_fourth_1 : decode cX9_fourth 1 = .ok (.getfield 56, 3) := by decide +kernel
theorem dX9_fourth_4 : decode cX9_fourth 4 = .ok (.iconst 3, 1) := by decide +kernel
theorem dX9_fourth_5 : decode cX9_fourth 5 = .ok (.iadd, 1) := by decide +kernel
theorem dX9_fourth_6 : decode cX9_fourth 6 = .ok (.aload_n 0, 1) := by decide +kernel
theorem dX9_fourth_7 : decode cX9_fourth 7 = .ok (.getfield 53, 3) := by decide +kernel
theorem dX9_fourth_10 : decode cX9_fourth 10 = .ok (.if_icmp .ge 17, 3) := by decide +kernel
theorem dX9_fourth_13 : decode cX9_fourth 13 = .ok (.aload_n 0, 1) := by decide +kernel
theorem dX9_fourth_14 : decode cX9_fourth 14 = .ok (.getfield 62, 3) := by decide +kernel
theorem dX9_fourth_17 : decode cX9_fourth 17 = .ok (.aload_n 0, 1) := by decide +kernel
theorem dX9_fourth_18 : decode cX9_fourth 18 = .ok (.getfield 56, 3) := by decide +kernel
theorem dX9_fourth_21 : decode cX9_fourth 21 = .ok (.iconst 3, 1) := by decide +kernel
theorem dX9_fourth_22 : decode cX9_fourth 22 = .ok (.iadd, 1) := by decide +kernel
theorem dX9_fourth_23 : decode cX9_fourth 23 = .ok (.iaload, 1) := by decide +kernel
theorem dX9_fourth_24 : decode cX9_fourth 24 = .ok (.goto 4, 3) := by decide +kernel
theorem dX9_fourth_27 : decode cX9_fourth 27 = .ok (.iconst (-1), 1) := by decide +kernel
theorem dX9_fourth_28 : decode cX9_fourth 28 = .ok (.ireturn, 1) := by decide +kernel
theorem dX9_takesHead_0 : decode cX9_takesHead 0 = .ok (.aload_n 0, 1) := by decide +kernel
theorem dX9_takesHead_1 : decode cX9_takesHead 1 = .ok (.invokevirtual 242, 3) := by decide +kernel
theorem dX9_takesHead_4 : decode cX9_takesHead 4 = .ok (.istore_n 2, 1) := by decide +kernel
theorem dX9_takesHead_5 : decode cX9_takesHead 5 = .ok (.aload_n 0, 1) := by decide +kernel
theorem dX9_takesHead_6 : decode cX9_takesHead 6 = .ok (.invokevirtual 245, 3) := by decide +kernel
theorem dX9_takesHead_9 : decode cX9_takesHead 9 = .ok (.istore_n 3, 1) := by decide +kernel
theorem dX9_takesHead_10 : decode cX9_takesHead 10 = .ok (.aload_n 0, 1) := by decide +kernel
theorem dX9_takesHead_11 : decode cX9_takesHead 11 = .ok (.invokevirtual 211, 3) := by decide +kernel
theorem dX9_takesHead_14 : decode cX9_takesHead 14 = .ok (.bipush 115, 2) := by decide +kernel
theorem dX9_takesHead_16 : decode cX9_takesHead 16 = .ok (.if_icmp .ne 43, 3) := by decide +kernel
theorem dX9_takesHead_19 : decode cX9_takesHead 19 = .ok (.aload_n 0, 1) := by decide +kernel
theorem dX9_takesHead_20 : decode cX9_takesHead 20 = .ok (.getfield 68, 3) := by decide +kernel
theorem dX9_takesHead_23 : decode cX9_takesHead 23 = .ok (.iload_n 1, 1) := by decide +kernel
theorem dX9_takesHead_24 : decode cX9_takesHead 24 = .ok (.iload_n 2, 1) := by decide +kernel
theorem dX9_takesHead_25 : decode cX9_takesHead 25 = .ok (.bipush 105, 2) := by decide +kernel
theorem dX9_takesHead_27 : decode cX9_takesHead 27 = .ok (.if_icmp .ne 7, 3) := by decide +kernel
theorem dX9_takesHead_30 : decode cX9_takesHead 30 = .ok (.iconst 2, 1) := by decide +kernel
theorem dX9_takesHead_31 : decode cX9_takesHead 31 = .ok (.goto 4, 3) := by decide +kernel
theorem dX9_takesHead_34 : decode cX9_takesHead 34 = .ok (.iconst 0, 1) := by decide +kernel
theorem dX9_takesHead_35 : decode cX9_takesHead 35 = .ok (.iastore, 1) := by decide +kernel
theorem dX9_takesHead_36 : decode cX9_takesHead 36 = .ok (.iload_n 2, 1) := by decide +kernel
theorem dX9_takesHead_37 : decode cX9_takesHead 37 = .ok (.bipush 105, 2) := by decide +kernel
theorem dX9_takesHead_39 : decode cX9_takesHead 39 = .ok (.if_icmp .ne 13, 3) := by decide +kernel
theorem dX9_takesHead_42 : decode cX9_takesHead 42 = .ok (.aload_n 0, 1) := by decide +kernel
theorem dX9_takesHead_43 : decode cX9_takesHead 43 = .ok (.bipush 9, 2) := by decide +kernel
theorem dX9_takesHead_45 : decode cX9_takesHead 45 = .ok (.iconst 4, 1) := by decide +kernel
theorem dX9_takesHead_46 : decode cX9_takesHead 46 = .ok (.invokevirtual 248, 3) := by decide +kernel
theorem dX9_takesHead_49 : decode cX9_takesHead 49 = .ok (.goto 9, 3) := by decide +kernel
theorem dX9_takesHead_52 : decode cX9_takesHead 52 = .ok (.aload_n 0, 1) := by decide +kernel
theorem dX9_takesHead_53 : decode cX9_takesHead 53 = .ok (.iconst 0, 1) := by decide +kernel
theorem dX9_takesHead_54 : decode cX9_takesHead 54 = .ok (.iconst 5, 1) := by decide +kernel
theorem dX9_takesHead_55 : decode cX9_takesHead 55 = .ok (.invokevirtual 248, 3) := by decide +kernel
theorem dX9_takesHead_58 : decode cX9_takesHead 58 = .ok (.ireturn, 1) := by decide +kernel
theorem dX9_takesHead_59 : decode cX9_takesHead 59 = .ok (.aload_n 0, 1) := by decide +kernel
theorem dX9_takesHead_60 : decode cX9_takesHead 60 = .ok (.getfield 68, 3) := by decide +kernel
theorem dX9_takesHead_63 : decode cX9_takesHead 63 = .ok (.iload_n 1, 1) := by decide +kernel
theorem dX9_takesHead_64 : decode cX9_takesHead 64 = .ok (.iload_n 3, 1) := by decide +kernel
theorem dX9_takesHead_65 : decode cX9_takesHead 65 = .ok (.bipush 117, 2) := by decide +kernel
theorem dX9_takesHead_67 : decode cX9_takesHead 67 = .ok (.if_icmp .ne 16, 3) := by decide +kernel
theorem dX9_takesHead_70 : decode cX9_takesHead 70 = .ok (.aload_n 0, 1) := by decide +kernel
theorem dX9_takesHead_71 : decode cX9_takesHead 71 = .ok (.invokevirtual 252, 3) := by decide +kernel
theorem dX9_takesHead_74 : decode cX9_takesHead 74 = .ok (.bipush 97, 2) := by decide +kernel
theorem dX9_takesHead_76 : decode cX9_takesHead 76 = .ok (.if_icmp .ne 7, 3) := by decide +kernel
theorem dX9_takesHead_79 : decode cX9_takesHead 79 = .ok (.iconst 3, 1) := by decide +kernel
theorem dX9_takesHead_80 : decode cX9_takesHead 80 = .ok (.goto 4, 3) := by decide +kernel
theorem dX9_takesHead_83 : decode cX9_takesHead 83 = .ok (.iconst 1, 1) := by decide +kernel
theorem dX9_takesHead_84 : decode cX9_takesHead 84 = .ok (.iastore, 1) := by decide +kernel
theorem dX9_takesHead_85 : decode cX9_takesHead 85 = .ok (.aload_n 0, 1) := by decide +kernel
theorem dX9_takesHead_86 : decode cX9_takesHead 86 = .ok (.getfield 68, 3) := by decide +kernel
theorem dX9_takesHead_89 : decode cX9_takesHead 89 = .ok (.iload_n 1, 1) := by decide +kernel
theorem dX9_takesHead_90 : decode cX9_takesHead 90 = .ok (.iaload, 1) := by decide +kernel
theorem dX9_takesHead_91 : decode cX9_takesHead 91 = .ok (.iconst 3, 1) := by decide +kernel
theorem dX9_takesHead_92 : decode cX9_takesHead 92 = .ok (.if_icmp .ne 14, 3) := by decide +kernel
theorem dX9_takesHead_95 : decode cX9_takesHead 95 = .ok (.aload_n 0, 1) := by decide +kernel
theorem dX9_takesHead_96 : decode cX9_takesHead 96 = .ok (.bipush 13, 2) := by decide +kernel
theorem dX9_takesHead_98 : decode cX9_takesHead 98 = .ok (.bipush 7, 2) := by decide +kernel
theorem dX9_takesHead_100 : decode cX9_takesHead 100 = .ok (.invokevirtual 248, 3) := by decide +kernel
theorem dX9_takesHead_103 : decode cX9_takesHead 103 = .ok (.goto 9, 3) := by decide +kernel
theorem dX9_takesHead_106 : decode cX9_takesHead 106 = .ok (.aload_n 0, 1) := by decide +kernel
theorem dX9_takesHead_107 : decode cX9_takesHead 107 = .ok (.iconst 5, 1) := by decide +kernel
theorem dX9_takesHead_108 : decode cX9_takesHead 108 = .ok (.iconst 4, 1) := by decide +kernel
theorem dX9_takesHead_109 : decode cX9_takesHead 109 = .ok (.invokevirtual 248, 3) := by decide +kernel
theorem dX9_takesHead_112 : decode cX9_takesHead 112 = .ok (.ireturn, 1) := by decide +kernel
theorem dX9_takesClause_0 : decode cX9_takesClause 0 = .ok (.aload_n 0, 1) := by decide +kernel
theorem dX9_takesClause_1 : decode cX9_takesClause 1 = .ok (.iload_n 1, 1) := by decide +kernel
theorem dX9_takesClause_2 : decode cX9_takesClause 2 = .ok (.invokevirtual 255, 3) := by decide +kernel
theorem dX9_takesClause_5 : decode cX9_takesClause 5 = .ok (.ifCond .eq 10, 3) := by decide +kernel
theorem dX9_takesClause_8 : decode cX9_takesClause 8 = .ok (.aload_n 0, 1) := by decide +kernel
theorem dX9_takesClause_9 : decode cX9_takesClause 9 = .ok (.invokevirtual 230, 3) := by decide +kernel
theorem dX9_takesClause_12 : decode cX9_takesClause 12 = .ok (.ifCond .ne 5, 3) := by decide +kernel
theorem dX9_takesClause_15 : decode cX9_takesClause 15 = .ok (.iconst 0, 1) := by decide +kernel
theorem dX9_takesClause_16 : decode cX9_takesClause 16 = .ok (.ireturn, 1) := by decide +kernel
theorem dX9_takesClause_17 : decode cX9_takesClause 17 = .ok (.aload_n 0, 1) := by decide +kernel
theorem dX9_takesClause_18 : decode cX9_takesClause 18 = .ok (.getfield 71, 3) := by decide +kernel
theorem dX9_takesClause_21 : decode cX9_takesClause 21 = .ok (.iload_n 1, 1) := by decide +kernel
theorem dX9_takesClause_22 : decode cX9_takesClause 22 = .ok (.aload_n 0, 1) := by decide +kernel
theorem dX9_takesClause_23 : decode cX9_takesClause 23 = .ok (.getfield 59, 3) := by decide +kernel
theorem dX9_takesClause_26 : decode cX9_takesClause 26 = .ok (.iastore, 1) := by decide +kernel
theorem dX9_takesClause_27 : decode cX9_takesClause 27 = .ok (.aload_n 0, 1) := by decide +kernel
theorem dX9_takesClause_28 : decode cX9_takesClause 28 = .ok (.getfield 68, 3) := by decide +kernel
theorem dX9_takesClause_31 : decode cX9_takesClause 31 = .ok (.iload_n 1, 1) := by decide +kernel
theorem dX9_takesClause_32 : decode cX9_takesClause 32 = .ok (.iaload, 1) := by decide +kernel
theorem dX9_takesClause_33 : decode cX9_takesClause 33 = .ok (.iconst 1, 1) := by decide +kernel
theorem dX9_takesClause_34 : decode cX9_takesClause 34 = .ok (.if_icmp .gt 20, 3) := by decide +kernel
theorem dX9_takesClause_37 : decode cX9_takesClause 37 = .ok (.aload_n 0, 1) := by decide +kernel
theorem dX9_takesClause_38 : decode cX9_takesClause 38 = .ok (.bipush 32, 2) := by decide +kernel
theorem dX9_takesClause_40 : decode cX9_takesClause 40 = .ok (.invokevirtual 215, 3) := by decide +kernel
theorem dX9_takesClause_43 : decode cX9_takesClause 43 = .ok (.ifCond .eq 15, 3) := by decide +kernel
theorem dX9_takesClause_46 : decode cX9_takesClause 46 = .ok (.aload_n 0, 1) := by decide +kernel
theorem dX9_takesClause_47 : decode cX9_takesClause 47 = .ok (.iload_n 1, 1) := by decide +kernel
theorem dX9_takesClause_48 : decode cX9_takesClause 48 = .ok (.invokevirtual 258, 3) := by decide +kernel
theorem dX9_takesClause_51 : decode cX9_takesClause 51 = .ok (.ifCond .eq 7, 3) := by decide +kernel
theorem dX9_takesClause_54 : decode cX9_takesClause 54 = .ok (.iconst 1, 1) := by decide +kernel
theorem dX9_takesClause_55 : decode cX9_takesClause 55 = .ok (.goto 4, 3) := by decide +kernel
theorem dX9_takesClause_58 : decode cX9_takesClause 58 = .ok (.iconst 0, 1) := by decide +kernel
theorem dX9_takesClause_59 : decode cX9_takesClause 59 = .ok (.ireturn, 1) := by decide +kernel
theorem dX9_goesText_0 : decode cX9_goesText 0 = .ok (.aload_n 0, 1) := by decide +kernel
theorem dX9_goesText_1 : decode cX9_goesText 1 = .ok (.iconst 0, 1) := by decide +kernel
theorem dX9_goesText_2 : decode cX9_goesText 2 = .ok (.putfield 56, 3) := by decide +kernel
theorem dX9_goesText_5 : decode cX9_goesText 5 = .ok (.aload_n 0, 1) := by decide +kernel
theorem dX9_goesText_6 : decode cX9_goesText 6 = .ok (.bipush 100, 2) := by decide +kernel
theorem dX9_goesText_8 : decode cX9_goesText 8 = .ok (.iload_n 1, 1) := by decide +kernel
theorem dX9_goesText_9 : decode cX9_goesText 9 = .ok (.imul, 1) := by decide +kernel
theorem dX9_goesText_10 : decode cX9_goesText 10 = .ok (.putfield 86, 3) := by decide +kernel
theorem dX9_goesText_13 : decode cX9_goesText 13 = .ok (.iconst 0, 1) := by decide +kernel
theorem dX9_goesText_14 : decode cX9_goesText 14 = .ok (.istore_n 2, 1) := by decide +kernel
theorem dX9_goesText_15 : decode cX9_goesText 15 = .ok (.aload_n 0, 1) := by decide +kernel
theorem dX9_goesText_16 : decode cX9_goesText 16 = .ok (.bipush 10, 2) := by decide +kernel
theorem dX9_goesText_18 : decode cX9_goesText 18 = .ok (.iload_n 1, 1) := by decide +kernel
theorem dX9_goesText_19 : decode cX9_goesText 19 = .ok (.imul, 1) := by decide +kernel
theorem dX9_goesText_20 : decode cX9_goesText 20 = .ok (.iload_n 2, 1) := by decide +kernel
theorem dX9_goesText_21 : decode cX9_goesText 21 = .ok (.iadd, 1) := by decide +kernel
theorem dX9_goesText_22 : decode cX9_goesText 22 = .ok (.invokevirtual 261, 3) := by decide +kernel
theorem dX9_goesText_25 : decode cX9_goesText 25 = .ok (.ifCond .ne 5, 3) := by decide +kernel
theorem dX9_goesText_28 : decode cX9_goesText 28 = .ok (.iconst 0, 1) := by decide +kernel
theorem dX9_goesText_29 : decode cX9_goesText 29 = .ok (.ireturn, 1) := by decide +kernel
theorem dX9_goesText_30 : decode cX9_goesText 30 = .ok (.iinc 2 1, 3) := by decide +kernel
theorem dX9_goesText_33 : decode cX9_goesText 33 = .ok (.aload_n 0, 1) := by decide +kernel
theorem dX9_goesText_34 : decode cX9_goesText 34 = .ok (.getfield 65, 3) := by decide +kernel
theorem dX9_goesText_37 : decode cX9_goesText 37 = .ok (.iload_n 1, 1) := by decide +kernel
theorem dX9_goesText_38 : decode cX9_goesText 38 = .ok (.iload_n 2, 1) := by decide +kernel
theorem dX9_goesText_39 : decode cX9_goesText 39 = .ok (.iastore, 1) := by decide +kernel
theorem dX9_goesText_40 : decode cX9_goesText 40 = .ok (.aload_n 0, 1) := by decide +kernel
theorem dX9_goesText_41 : decode cX9_goesText 41 = .ok (.getfield 56, 3) := by decide +kernel
theorem dX9_goesText_44 : decode cX9_goesText 44 = .ok (.aload_n 0, 1) := by decide +kernel
theorem dX9_goesText_45 : decode cX9_goesText 45 = .ok (.getfield 53, 3) := by decide +kernel
theorem dX9_goesText_48 : decode cX9_goesText 48 = .ok (.if_icmp .ne 5, 3) := by decide +kernel
theorem dX9_goesText_51 : decode cX9_goesText 51 = .ok (.iconst 1, 1) := by decide +kernel
theorem dX9_goesText_52 : decode cX9_goesText 52 = .ok (.ireturn, 1) := by decide +kernel
theorem dX9_goesText_53 : decode cX9_goesText 53 = .ok (.iload_n 2, 1) := by decide +kernel
theorem dX9_goesText_54 : decode cX9_goesText 54 = .ok (.bipush 10, 2) := by decide +kernel
theorem dX9_goesText_56 : decode cX9_goesText 56 = .ok (.if_icmp .eq 12, 3) := by decide +kernel
theorem dX9_goesText_59 : decode cX9_goesText 59 = .ok (.aload_n 0, 1) := by decide +kernel
theorem dX9_goesText_60 : decode cX9_goesText 60 = .ok (.bipush 59, 2) := by decide +kernel
theorem dX9_goesText_62 : decode cX9_goesText 62 = .ok (.invokevirtual 215, 3) := by decide +kernel
theorem dX9_goesText_65 : decode cX9_goesText 65 = .ok (.ifCond .ne (-50), 3) := by decide +kernel
theorem dX9_goesText_68 : decode cX9_goesText 68 = .ok (.iconst 0, 1) := by decide +kernel
theorem dX9_goesText_69 : decode cX9_goesText 69 = .ok (.ireturn, 1) := by decide +kernel
theorem dX9_house_0 : decode cX9_house 0 = .ok (.aload_n 0, 1) := by decide +kernel
theorem dX9_house_1 : decode cX9_house 1 = .ok (.getfield 47, 3) := by decide +kernel
theorem dX9_house_4 : decode cX9_house 4 = .ok (.bipush 6, 2) := by decide +kernel
theorem dX9_house_6 : decode cX9_house 6 = .ok (.if_icmp .ne 6, 3) := by decide +kernel
theorem dX9_house_9 : decode cX9_house 9 = .ok (.bipush (-4), 2) := by decide +kernel
theorem dX9_house_11 : decode cX9_house 11 = .ok (.ireturn, 1) := by decide +kernel
theorem dX9_house_12 : decode cX9_house 12 = .ok (.aload_n 0, 1) := by decide +kernel
theorem dX9_house_13 : decode cX9_house 13 = .ok (.aload_n 0, 1) := by decide +kernel
theorem dX9_house_14 : decode cX9_house 14 = .ok (.getfield 47, 3) := by decide +kernel
theorem dX9_house_17 : decode cX9_house 17 = .ok (.invokevirtual 264, 3) := by decide +kernel
theorem dX9_house_20 : decode cX9_house 20 = .ok (.istore_n 1, 1) := by decide +kernel
theorem dX9_house_21 : decode cX9_house 21 = .ok (.aload_n 0, 1) := by decide +kernel
theorem dX9_house_22 : decode cX9_house 22 = .ok (.iconst 0, 1) := by decide +kernel
theorem dX9_house_23 : decode cX9_house 23 = .ok (.putfield 53, 3) := by decide +kernel
theorem dX9_house_26 : decode cX9_house 26 = .ok (.iload_n 1, 1) := by decide +kernel
theorem dX9_house_27 : decode cX9_house 27 = .ok (.ifCond .ne 11, 3) := by decide +kernel
theorem dX9_house_30 : decode cX9_house 30 = .ok (.bipush (-10), 2) := by decide +kernel
theorem dX9_house_32 : decode cX9_house 32 = .ok (.aload_n 0, 1) := by decide +kernel
theorem dX9_house_33 : decode cX9_house 33 = .ok (.getfield 56, 3) := by decide +kernel
theorem dX9_house_36 : decode cX9_house 36 = .ok (.isub, 1) := by decide +kernel
theorem dX9_house_37 : decode cX9_house 37 = .ok (.ireturn, 1) := by decide +kernel
theorem dX9_house_38 : decode cX9_house 38 = .ok (.aload_n 0, 1) := by decide +kernel
theorem dX9_house_39 : decode cX9_house 39 = .ok (.aload_n 0, 1) := by decide +kernel
theorem dX9_house_40 : decode cX9_house 40 = .ok (.getfield 47, 3) := by decide +kernel
theorem dX9_house_43 : decode cX9_house 43 = .ok (.putfield 50, 3) := by decide +kernel
theorem dX9_house_46 : decode cX9_house 46 = .ok (.aload_n 0, 1) := by decide +kernel
theorem dX9_house_47 : decode cX9_house 47 = .ok (.dup, 1) := by decide +kernel
theorem dX9_house_48 : decode cX9_house 48 = .ok (.getfield 47, 3) := by decide +kernel
theorem dX9_house_51 : decode cX9_house 51 = .ok (.iconst 1, 1) := by decide +kernel
theorem dX9_house_52 : decode cX9_house 52 = .ok (.iadd, 1) := by decide +kernel
theorem dX9_house_53 : decode cX9_house 53 = .ok (.putfield 47, 3) := by decide +kernel
theorem dX9_house_56 : decode cX9_house 56 = .ok (.aload_n 0, 1) := by decide +kernel
theorem dX9_house_57 : decode cX9_house 57 = .ok (.getfield 50, 3) := by decide +kernel
theorem dX9_house_60 : decode cX9_house 60 = .ok (.ireturn, 1) := by decide +kernel
theorem dX9_begin_0 : decode cX9_begin 0 = .ok (.aload_n 0, 1) := by decide +kernel
theorem dX9_begin_1 : decode cX9_begin 1 = .ok (.getfield 50, 3) := by decide +kernel
theorem dX9_begin_4 : decode cX9_begin 4 = .ok (.ifCond .ge 7, 3) := by decide +kernel
theorem dX9_begin_7 : decode cX9_begin 7 = .ok (.iconst 0, 1) := by decide +kernel
theorem dX9_begin_8 : decode cX9_begin 8 = .ok (.goto 10, 3) := by decide +kernel
theorem dX9_begin_11 : decode cX9_begin 11 = .ok (.bipush 10, 2) := by decide +kernel
theorem dX9_begin_13 : decode cX9_begin 13 = .ok (.aload_n 0, 1) := by decide +kernel
theorem dX9_begin_14 : decode cX9_begin 14 = .ok (.getfield 50, 3) := by decide +kernel
theorem dX9_begin_17 : decode cX9_begin 17 = .ok (.imul, 1) := by decide +kernel
theorem dX9_begin_18 : decode cX9_begin 18 = .ok (.ireturn, 1) := by decide +kernel
theorem dX9_behind_0 : decode cX9_behind 0 = .ok (.aload_n 0, 1) := by decide +kernel
theorem dX9_behind_1 : decode cX9_behind 1 = .ok (.getfield 50, 3) := by decide +kernel
theorem dX9_behind_4 : decode cX9_behind 4 = .ok (.ifCond .ge 7, 3) := by decide +kernel
theorem dX9_behind_7 : decode cX9_behind 7 = .ok (.iconst 0, 1) := by decide +kernel
theorem dX9_behind_8 : decode cX9_behind 8 = .ok (.goto 20, 3) := by decide +kernel
theorem dX9_behind_11 : decode cX9_behind 11 = .ok (.bipush 10, 2) := by decide +kernel
theorem dX9_behind_13 : decode cX9_behind 13 = .ok (.aload_n 0, 1) := by decide +kernel
theorem dX9_behind_14 : decode cX9_behind 14 = .ok (.getfield 50, 3) := by decide +kernel
theorem dX9_behind_17 : decode cX9_behind 17 = .ok (.imul, 1) := by decide +kernel
theorem dX9_behind_18 : decode cX9_behind 18 = .ok (.aload_n 0, 1) := by decide +kernel
theorem dX9_behind_19 : decode cX9_behind 19 = .ok (.getfield 65, 3) := by decide +kernel
theorem dX9_behind_22 : decode cX9_behind 22 = .ok (.aload_n 0, 1) := by decide +kernel
theorem dX9_behind_23 : decode cX9_behind 23 = .ok (.getfield 50, 3) := by decide +kernel
theorem dX9_behind_26 : decode cX9_behind 26 = .ok (.iaload, 1) := by decide +kernel
theorem dX9_behind_27 : decode cX9_behind 27 = .ok (.iadd, 1) := by decide +kernel
theorem dX9_behind_28 : decode cX9_behind 28 = .ok (.ireturn, 1) := by decide +kernel
theorem dX9_lastOf_0 : decode cX9_lastOf 0 = .ok (.iload_n 2, 1) := by decide +kernel
theorem dX9_lastOf_1 : decode cX9_lastOf 1 = .ok (.istore_n 3, 1) := by decide +kernel
theorem dX9_lastOf_2 : decode cX9_lastOf 2 = .ok (.aload_n 0, 1) := by decide +kernel
theorem dX9_lastOf_3 : decode cX9_lastOf 3 = .ok (.invokevirtual 267, 3) := by decide +kernel
theorem dX9_lastOf_6 : decode cX9_lastOf 6 = .ok (.istore 4, 2) := by decide +kernel
theorem dX9_lastOf_8 : decode cX9_lastOf 8 = .ok (.iload 4, 2) := by decide +kernel
theorem dX9_lastOf_10 : decode cX9_lastOf 10 = .ok (.aload_n 0, 1) := by decide +kernel
theorem dX9_lastOf_11 : decode cX9_lastOf 11 = .ok (.invokevirtual 270, 3) := by decide +kernel
theorem dX9_lastOf_14 : decode cX9_lastOf 14 = .ok (.if_icmp .ge 32, 3) := by decide +kernel
theorem dX9_lastOf_17 : decode cX9_lastOf 17 = .ok (.aload_n 0, 1) := by decide +kernel
theorem dX9_lastOf_18 : decode cX9_lastOf 18 = .ok (.getfield 68, 3) := by decide +kernel
theorem dX9_lastOf_21 : decode cX9_lastOf 21 = .ok (.iload 4, 2) := by decide +kernel
theorem dX9_lastOf_23 : decode cX9_lastOf 23 = .ok (.iaload, 1) := by decide +kernel
theorem dX9_lastOf_24 : decode cX9_lastOf 24 = .ok (.iload_n 1, 1) := by decide +kernel
theorem dX9_lastOf_25 : decode cX9_lastOf 25 = .ok (.if_icmp .ne 13, 3) := by decide +kernel
theorem dX9_lastOf_28 : decode cX9_lastOf 28 = .ok (.aload_n 0, 1) := by decide +kernel
theorem dX9_lastOf_29 : decode cX9_lastOf 29 = .ok (.getfield 71, 3) := by decide +kernel
theorem dX9_lastOf_32 : decode cX9_lastOf 32 = .ok (.iload 4, 2) := by decide +kernel
theorem dX9_lastOf_34 : decode cX9_lastOf 34 = .ok (.iaload, 1) := by decide +kernel
theorem dX9_lastOf_35 : decode cX9_lastOf 35 = .ok (.goto 4, 3) := by decide +kernel
theorem dX9_lastOf_38 : decode cX9_lastOf 38 = .ok (.iload_n 3, 1) := by decide +kernel
theorem dX9_lastOf_39 : decode cX9_lastOf 39 = .ok (.istore_n 3, 1) := by decide +kernel
theorem dX9_lastOf_40 : decode cX9_lastOf 40 = .ok (.iinc 4 1, 3) := by decide +kernel
theorem dX9_lastOf_43 : decode cX9_lastOf 43 = .ok (.goto (-35), 3) := by decide +kernel
theorem dX9_lastOf_46 : decode cX9_lastOf 46 = .ok (.iload_n 3, 1) := by decide +kernel
theorem dX9_lastOf_47 : decode cX9_lastOf 47 = .ok (.ireturn, 1) := by decide +kernel
theorem dX9_hasSwell_0 : decode cX9_hasSwell 0 = .ok (.aload_n 0, 1) := by decide +kernel
theorem dX9_hasSwell_1 : decode cX9_hasSwell 1 = .ok (.invokevirtual 267, 3) := by decide +kernel
theorem dX9_hasSwell_4 : decode cX9_hasSwell 4 = .ok (.istore_n 1, 1) := by decide +kernel
theorem dX9_hasSwell_5 : decode cX9_hasSwell 5 = .ok (.iload_n 1, 1) := by decide +kernel
theorem dX9_hasSwell_6 : decode cX9_hasSwell 6 = .ok (.aload_n 0, 1) := by decide +kernel
theorem dX9_hasSwell_7 : decode cX9_hasSwell 7 = .ok (.invokevirtual 270, 3) := by decide +kernel
theorem dX9_hasSwell_10 : decode cX9_hasSwell 10 = .ok (.if_icmp .ge 20, 3) := by decide +kernel
theorem dX9_hasSwell_13 : decode cX9_hasSwell 13 = .ok (.aload_n 0, 1) := by decide +kernel
theorem dX9_hasSwell_14 : decode cX9_hasSwell 14 = .ok (.getfield 68, 3) := by decide +kernel
theorem dX9_hasSwell_17 : decode cX9_hasSwell 17 = .ok (.iload_n 1, 1) := by decide +kernel
theorem dX9_hasSwell_18 : decode cX9_hasSwell 18 = .ok (.iaload, 1) := by decide +kernel
theorem dX9_hasSwell_19 : decode cX9_hasSwell 19 = .ok (.ifCond .ne 5, 3) := by decide +kernel
theorem dX9_hasSwell_22 : decode cX9_hasSwell 22 = .ok (.iconst 1, 1) := by decide +kernel
theorem dX9_hasSwell_23 : decode cX9_hasSwell 23 = .ok (.ireturn, 1) := by decide +kernel
theorem dX9_hasSwell_24 : decode cX9_hasSwell 24 = .ok (.iinc 1 1, 3) := by decide +kernel
theorem dX9_hasSwell_27 : decode cX9_hasSwell 27 = .ok (.goto (-22), 3) := by decide +kernel
theorem dX9_hasSwell_30 : decode cX9_hasSwell 30 = .ok (.iconst 0, 1) := by decide +kernel
theorem dX9_hasSwell_31 : decode cX9_hasSwell 31 = .ok (.ireturn, 1) := by decide +kernel
theorem dX9_factOf_0 : decode cX9_factOf 0 = .ok (.iload_n 1, 1) := by decide +kernel
theorem dX9_factOf_1 : decode cX9_factOf 1 = .ok (.tableswitch 88 0 4 #[35, 42, 44, 63, 70], 35) := by decide +kernel
theorem dX9_factOf_36 : decode cX9_factOf 36 = .ok (.aload_n 0, 1) := by decide +kernel
theorem dX9_factOf_37 : decode cX9_factOf 37 = .ok (.getfield 23, 3) := by decide +kernel
theorem dX9_factOf_40 : decode cX9_factOf 40 = .ok (.iload_n 2, 1) := by decide +kernel
theorem dX9_factOf_41 : decode cX9_factOf 41 = .ok (.iaload, 1) := by decide +kernel
theorem dX9_factOf_42 : decode cX9_factOf 42 = .ok (.ireturn, 1) := by decide +kernel
theorem dX9_factOf_43 : decode cX9_factOf 43 = .ok (.iload_n 2, 1) := by decide +kernel
theorem dX9_factOf_44 : decode cX9_factOf 44 = .ok (.ireturn, 1) := by decide +kernel
theorem dX9_factOf_45 : decode cX9_factOf 45 = .ok (.aload_n 0, 1) := by decide +kernel
theorem dX9_factOf_46 : decode cX9_factOf 46 = .ok (.getfield 29, 3) := by decide +kernel
theorem dX9_factOf_49 : decode cX9_factOf 49 = .ok (.iload_n 2, 1) := by decide +kernel
theorem dX9_factOf_50 : decode cX9_factOf 50 = .ok (.iaload, 1) := by decide +kernel
theorem dX9_factOf_51 : decode cX9_factOf 51 = .ok (.aload_n 0, 1) := by decide +kernel
theorem dX9_factOf_52 : decode cX9_factOf 52 = .ok (.getfield 32, 3) := by decide +kernel
theorem dX9_factOf_55 : decode cX9_factOf 55 = .ok (.iload_n 2, 1) := by decide +kernel
theorem dX9_factOf_56 : decode cX9_factOf 56 = .ok (.iaload, 1) := by decide +kernel
theorem dX9_factOf_57 : decode cX9_factOf 57 = .ok (.iadd, 1) := by decide +kernel
theorem dX9_factOf_58 : decode cX9_factOf 58 = .ok (.iconst 2, 1) := by decide +kernel
theorem dX9_factOf_59 : decode cX9_factOf 59 = .ok (.idiv, 1) := by decide +kernel
theorem dX9_factOf_60 : decode cX9_factOf 60 = .ok (.bipush 10, 2) := by decide +kernel
theorem dX9_factOf_62 : decode cX9_factOf 62 = .ok (.idiv, 1) := by decide +kernel
theorem dX9_factOf_63 : decode cX9_factOf 63 = .ok (.ireturn, 1) := by decide +kernel
theorem dX9_factOf_64 : decode cX9_factOf 64 = .ok (.aload_n 0, 1) := by decide +kernel
theorem dX9_factOf_65 : decode cX9_factOf 65 = .ok (.getfield 38, 3) := by decide +kernel
theorem dX9_factOf_68 : decode cX9_factOf 68 = .ok (.iload_n 2, 1) := by decide +kernel
theorem dX9_factOf_69 : decode cX9_factOf 69 = .ok (.iaload, 1) := by decide +kernel
theorem dX9_factOf_70 : decode cX9_factOf 70 = .ok (.ireturn, 1) := by decide +kernel
theorem dX9_factOf_71 : decode cX9_factOf 71 = .ok (.aload_n 0, 1) := by decide +kernel
theorem dX9_factOf_72 : decode cX9_factOf 72 = .ok (.getfield 35, 3) := by decide +kernel
theorem dX9_factOf_75 : decode cX9_factOf 75 = .ok (.iload_n 2, 1) := by decide +kernel
theorem dX9_factOf_76 : decode cX9_factOf 76 = .ok (.iaload, 1) := by decide +kernel
theorem dX9_factOf_77 : decode cX9_factOf 77 = .ok (.iconst 2, 1) := by decide +kernel
theorem dX9_factOf_78 : decode cX9_factOf 78 = .ok (.irem, 1) := by decide +kernel
theorem dX9_factOf_79 : decode cX9_factOf 79 = .ok (.aload_n 0, 1) := by decide +kernel
theorem dX9_factOf_80 : decode cX9_factOf 80 = .ok (.getfield 35, 3) := by decide +kernel
theorem dX9_factOf_83 : decode cX9_factOf 83 = .ok (.iload_n 2, 1) := by decide +kernel
theorem dX9_factOf_84 : decode cX9_factOf 84 = .ok (.iaload, 1) := by decide +kernel
theorem dX9_factOf_85 : decode cX9_factOf 85 = .ok (.iconst 2, 1) := by decide +kernel
theorem dX9_factOf_86 : decode cX9_factOf 86 = .ok (.idiv, 1) := by decide +kernel
theorem dX9_factOf_87 : decode cX9_factOf 87 = .ok (.iadd, 1) := by decide +kernel
theorem dX9_factOf_88 : decode cX9_factOf 88 = .ok (.ireturn, 1) := by decide +kernel
theorem dX9_factOf_89 : decode cX9_factOf 89 = .ok (.aload_n 0, 1) := by decide +kernel
theorem dX9_factOf_90 : decode cX9_factOf 90 = .ok (.getfield 20, 3) := by decide +kernel
theorem dX9_factOf_93 : decode cX9_factOf 93 = .ok (.bipush 12, 2) := by decide +kernel
theorem dX9_factOf_95 : decode cX9_factOf 95 = .ok (.irem, 1) := by decide +kernel
theorem dX9_factOf_96 : decode cX9_factOf 96 = .ok (.ireturn, 1) := by decide +kernel
theorem dX9_holds_0 : decode cX9_holds 0 = .ok (.iconst 0, 1) := by decide +kernel
theorem dX9_holds_1 : decode cX9_holds 1 = .ok (.istore_n 3, 1) := by decide +kernel
theorem dX9_holds_2 : decode cX9_holds 2 = .ok (.aload_n 0, 1) := by decide +kernel
theorem dX9_holds_3 : decode cX9_holds 3 = .ok (.getfield 74, 3) := by decide +kernel
theorem dX9_holds_6 : decode cX9_holds 6 = .ok (.iload_n 1, 1) := by decide +kernel
theorem dX9_holds_7 : decode cX9_holds 7 = .ok (.iaload, 1) := by decide +kernel
theorem dX9_holds_8 : decode cX9_holds 8 = .ok (.istore 4, 2) := by decide +kernel
theorem dX9_holds_10 : decode cX9_holds 10 = .ok (.iload 4, 2) := by decide +kernel
theorem dX9_holds_12 : decode cX9_holds 12 = .ok (.aload_n 0, 1) := by decide +kernel
theorem dX9_holds_13 : decode cX9_holds 13 = .ok (.getfield 77, 3) := by decide +kernel
theorem dX9_holds_16 : decode cX9_holds 16 = .ok (.iload_n 1, 1) := by decide +kernel
theorem dX9_holds_17 : decode cX9_holds 17 = .ok (.iaload, 1) := by decide +kernel
theorem dX9_holds_18 : decode cX9_holds 18 = .ok (.if_icmp .ge 225, 3) := by decide +kernel
theorem dX9_holds_21 : decode cX9_holds 21 = .ok (.aload_n 0, 1) := by decide +kernel
theorem dX9_holds_22 : decode cX9_holds 22 = .ok (.getfield 80, 3) := by decide +kernel
theorem dX9_holds_25 : decode cX9_holds 25 = .ok (.iload 4, 2) := by decide +kernel
theorem dX9_holds_27 : decode cX9_holds 27 = .ok (.iaload, 1) := by decide +kernel
theorem dX9_holds_28 : decode cX9_holds 28 = .ok (.istore 5, 2) := by decide +kernel
theorem dX9_holds_30 : decode cX9_holds 30 = .ok (.iload 5, 2) := by decide +kernel
theorem dX9_holds_32 : decode cX9_holds 32 = .ok (.bipush (-33), 2) := by decide +kernel
theorem dX9_holds_34 : decode cX9_holds 34 = .ok (.if_icmp .ne 30, 3) := by decide +kernel
theorem dX9_holds_37 : decode cX9_holds 37 = .ok (.aload_n 0, 1) := by decide +kernel
theorem dX9_holds_38 : decode cX9_holds 38 = .ok (.getfield 98, 3) := by decide +kernel
theorem dX9_holds_41 : decode cX9_holds 41 = .ok (.iload_n 3, 1) := by decide +kernel
theorem dX9_holds_42 : decode cX9_holds 42 = .ok (.iconst 1, 1) := by decide +kernel
theorem dX9_holds_43 : decode cX9_holds 43 = .ok (.isub, 1) := by decide +kernel
theorem dX9_holds_44 : decode cX9_holds 44 = .ok (.aload_n 0, 1) := by decide +kernel
theorem dX9_holds_45 : decode cX9_holds 45 = .ok (.getfield 98, 3) := by decide +kernel
theorem dX9_holds_48 : decode cX9_holds 48 = .ok (.iload_n 3, 1) := by decide +kernel
theorem dX9_holds_49 : decode cX9_holds 49 = .ok (.iconst 1, 1) := by decide +kernel
theorem dX9_holds_50 : decode cX9_holds 50 = .ok (.isub, 1) := by decide +kernel
theorem dX9_holds_51 : decode cX9_holds 51 = .ok (.baload, 1) := by decide +kernel
theorem dX9_holds_52 : decode cX9_holds 52 = .ok (.ifCond .ne 7, 3) := by decide +kernel
theorem dX9_holds_55 : decode cX9_holds 55 = .ok (.iconst 1, 1) := by decide +kernel
theorem dX9_holds_56 : decode cX9_holds 56 = .ok (.goto 4, 3) := by decide +kernel
theorem dX9_holds_59 : decode cX9_holds 59 = .ok (.iconst 0, 1) := by decide +kernel
theorem dX9_holds_60 : decode cX9_holds 60 = .ok (.bastore, 1) := by decide +kernel
theorem dX9_holds_61 : decode cX9_holds 61 = .ok (.goto 176, 3) := by decide +kernel
theorem dX9_holds_64 : decode cX9_holds 64 = .ok (.iload 5, 2) := by decide +kernel
theorem dX9_holds_66 : decode cX9_holds 66 = .ok (.ifCond .ge 77, 3) := by decide +kernel
theorem dX9_holds_69 : decode cX9_holds 69 = .ok (.iinc 3 (-1), 3) := by decide +kernel
theorem dX9_holds_72 : decode cX9_holds 72 = .ok (.aload_n 0, 1) := by decide +kernel
theorem dX9_holds_73 : decode cX9_holds 73 = .ok (.getfield 98, 3) := by decide +kernel
theorem dX9_holds_76 : decode cX9_holds 76 = .ok (.iload_n 3, 1) := by decide +kernel
theorem dX9_holds_77 : decode cX9_holds 77 = .ok (.iconst 1, 1) := by decide +kernel
theorem dX9_holds_78 : decode cX9_holds 78 = .ok (.isub, 1) := by decide +kernel
theorem dX9_holds_79 : decode cX9_holds 79 = .ok (.iload 5, 2) := by decide +kernel
theorem dX9_holds_81 : decode cX9_holds 81 = .ok (.bipush (-38), 2) := by decide +kernel
theorem dX9_holds_83 : decode cX9_holds 83 = .ok (.if_icmp .ne 31, 3) := by decide +kernel
theorem dX9_holds_86 : decode cX9_holds 86 = .ok (.aload_n 0, 1) := by decide +kernel
theorem dX9_holds_87 : decode cX9_holds 87 = .ok (.getfield 98, 3) := by decide +kernel
theorem dX9_holds_90 : decode cX9_holds 90 = .ok (.iload_n 3, 1) := by decide +kernel
theorem dX9_holds_91 : decode cX9_holds 91 = .ok (.iconst 1, 1) := by decide +kernel
theorem dX9_holds_92 : decode cX9_holds 92 = .ok (.isub, 1) := by decide +kernel
theorem dX9_holds_93 : decode cX9_holds 93 = .ok (.baload, 1) := by decide +kernel
theorem dX9_holds_94 : decode cX9_holds 94 = .ok (.ifCond .eq 16, 3) := by decide +kernel
theorem dX9_holds_97 : decode cX9_holds 97 = .ok (.aload_n 0, 1) := by decide +kernel
theorem dX9_holds_98 : decode cX9_holds 98 = .ok (.getfield 98, 3) := by decide +kernel
theorem dX9_holds_101 : decode cX9_holds 101 = .ok (.iload_n 3, 1) := by decide +kernel
theorem dX9_holds_102 : decode cX9_holds 102 = .ok (.baload, 1) := by decide +kernel
theorem dX9_holds_103 : decode cX9_holds 103 = .ok (.ifCond .eq 7, 3) := by decide +kernel
theorem dX9_holds_106 : decode cX9_holds 106 = .ok (.iconst 1, 1) := by decide +kernel
theorem dX9_holds_107 : decode cX9_holds 107 = .ok (.goto 32, 3) := by decide +kernel
theorem dX9_holds_110 : decode cX9_holds 110 = .ok (.iconst 0, 1) := by decide +kernel
theorem dX9_holds_111 : decode cX9_holds 111 = .ok (.goto 28, 3) := by decide +kernel
theorem dX9_holds_114 : decode cX9_holds 114 = .ok (.aload_n 0, 1) := by decide +kernel
theorem dX9_holds_115 : decode cX9_holds 115 = .ok (.getfield 98, 3) := by decide +kernel
theorem dX9_holds_118 : decode cX9_holds 118 = .ok (.iload_n 3, 1) := by decide +kernel
theorem dX9_holds_119 : decode cX9_holds 119 = .ok (.iconst 1, 1) := by decide +kernel
theorem dX9_holds_120 : decode cX9_holds 120 = .ok (.isub, 1) := by decide +kernel
theorem dX9_holds_121 : decode cX9_holds 121 = .ok (.baload, 1) := by decide +kernel
theorem dX9_holds_122 : decode cX9_holds 122 = .ok (.ifCond .ne 12, 3) := by decide +kernel
theorem dX9_holds_125 : decode cX9_holds 125 = .ok (.aload_n 0, 1) := by decide +kernel
theorem dX9_holds_126 : decode cX9_holds 126 = .ok (.getfield 98, 3) := by decide +kernel
theorem dX9_holds_129 : decode cX9_holds 129 = .ok (.iload_n 3, 1) := by decide +kernel
theorem dX9_holds_130 : decode cX9_holds 130 = .ok (.baload, 1) := by decide +kernel
theorem dX9_holds_131 : decode cX9_holds 131 = .ok (.ifCond .eq 7, 3) := by decide +kernel
theorem dX9_holds_134 : decode cX9_holds 134 = .ok (.iconst 1, 1) := by decide +kernel
theorem dX9_holds_135 : decode cX9_holds 135 = .ok (.goto 4, 3) := by decide +kernel
theorem dX9_holds_138 : decode cX9_holds 138 = .ok (.iconst 0, 1) := by decide +kernel
theorem dX9_holds_139 : decode cX9_holds 139 = .ok (.bastore, 1) := by decide +kernel
theorem dX9_holds_140 : decode cX9_holds 140 = .ok (.goto 97, 3) := by decide +kernel
theorem dX9_holds_143 : decode cX9_holds 143 = .ok (.aload_n 0, 1) := by decide +kernel
theorem dX9_holds_144 : decode cX9_holds 144 = .ok (.iload 5, 2) := by decide +kernel
theorem dX9_holds_146 : decode cX9_holds 146 = .ok (.sipush 1000, 3) := by decide +kernel
theorem dX9_holds_149 : decode cX9_holds 149 = .ok (.idiv, 1) := by decide +kernel
theorem dX9_holds_150 : decode cX9_holds 150 = .ok (.iload_n 2, 1) := by decide +kernel
theorem dX9_holds_151 : decode cX9_holds 151 = .ok (.invokevirtual 273, 3) := by decide +kernel
theorem dX9_holds_154 : decode cX9_holds 154 = .ok (.istore 6, 2) := by decide +kernel
theorem dX9_holds_156 : decode cX9_holds 156 = .ok (.iload 5, 2) := by decide +kernel
theorem dX9_holds_158 : decode cX9_holds 158 = .ok (.bipush 100, 2) := by decide +kernel
theorem dX9_holds_160 : decode cX9_holds 160 = .ok (.idiv, 1) := by decide +kernel
theorem dX9_holds_161 : decode cX9_holds 161 = .ok (.bipush 10, 2) := by decide +kernel
theorem dX9_holds_163 : decode cX9_holds 163 = .ok (.irem, 1) := by decide +kernel
theorem dX9_holds_164 : decode cX9_holds 164 = .ok (.istore 7, 2) := by decide +kernel
theorem dX9_holds_166 : decode cX9_holds 166 = .ok (.aload_n 0, 1) := by decide +kernel
theorem dX9_holds_167 : decode cX9_holds 167 = .ok (.getfield 98, 3) := by decide +kernel
theorem dX9_holds_170 : decode cX9_holds 170 = .ok (.iload_n 3, 1) := by decide +kernel
theorem dX9_holds_171 : decode cX9_holds 171 = .ok (.iload 7, 2) := by decide +kernel
theorem dX9_holds_173 : decode cX9_holds 173 = .ok (.ifCond .ne 21, 3) := by decide +kernel
theorem dX9_holds_176 : decode cX9_holds 176 = .ok (.iload 6, 2) := by decide +kernel
theorem dX9_holds_178 : decode cX9_holds 178 = .ok (.iload 5, 2) := by decide +kernel
theorem dX9_holds_180 : decode cX9_holds 180 = .ok (.bipush 100, 2) := by decide +kernel
theorem dX9_holds_182 : decode cX9_holds 182 = .ok (.irem, 1) := by decide +kernel
theorem dX9_holds_183 : decode cX9_holds 183 = .ok (.if_icmp .ge 7, 3) := by decide +kernel
theorem dX9_holds_186 : decode cX9_holds 186 = .ok (.iconst 1, 1) := by decide +kernel
theorem dX9_holds_187 : decode cX9_holds 187 = .ok (.goto 46, 3) := by decide +kernel
theorem dX9_holds_190 : decode cX9_holds 190 = .ok (.iconst 0, 1) := by decide +kernel
theorem dX9_holds_191 : decode cX9_holds 191 = .ok (.goto 42, 3) := by decide +kernel
theorem dX9_holds_194 : decode cX9_holds 194 = .ok (.iload 7, 2) := by decide +kernel
theorem dX9_holds_196 : decode cX9_holds 196 = .ok (.iconst 1, 1) := by decide +kernel
theorem dX9_holds_197 : decode cX9_holds 197 = .ok (.if_icmp .ne 21, 3) := by decide +kernel
theorem dX9_holds_200 : decode cX9_holds 200 = .ok (.iload 6, 2) := by decide +kernel
theorem dX9_holds_202 : decode cX9_holds 202 = .ok (.iload 5, 2) := by decide +kernel
theorem dX9_holds_204 : decode cX9_holds 204 = .ok (.bipush 100, 2) := by decide +kernel
theorem dX9_holds_206 : decode cX9_holds 206 = .ok (.irem, 1) := by decide +kernel
theorem dX9_holds_207 : decode cX9_holds 207 = .ok (.if_icmp .ne 7, 3) := by decide +kernel
theorem dX9_holds_210 : decode cX9_holds 210 = .ok (.iconst 1, 1) := by decide +kernel
theorem dX9_holds_211 : decode cX9_holds 211 = .ok (.goto 22, 3) := by decide +kernel
theorem dX9_holds_214 : decode cX9_holds 214 = .ok (.iconst 0, 1) := by decide +kernel
theorem dX9_holds_215 : decode cX9_holds 215 = .ok (.goto 18, 3) := by decide +kernel
theorem dX9_holds_218 : decode cX9_holds 218 = .ok (.iload 6, 2) := by decide +kernel
theorem dX9_holds_220 : decode cX9_holds 220 = .ok (.iload 5, 2) := by decide +kernel
theorem dX9_holds_222 : decode cX9_holds 222 = .ok (.bipush 100, 2) := by decide +kernel
theorem dX9_holds_224 : decode cX9_holds 224 = .ok (.irem, 1) := by decide +kernel
theorem dX9_holds_225 : decode cX9_holds 225 = .ok (.if_icmp .le 7, 3) := by decide +kernel
theorem dX9_holds_228 : decode cX9_holds 228 = .ok (.iconst 1, 1) := by decide +kernel
theorem dX9_holds_229 : decode cX9_holds 229 = .ok (.goto 4, 3) := by decide +kernel
theorem dX9_holds_232 : decode cX9_holds 232 = .ok (.iconst 0, 1) := by decide +kernel
theorem dX9_holds_233 : decode cX9_holds 233 = .ok (.bastore, 1) := by decide +kernel
theorem dX9_holds_234 : decode cX9_holds 234 = .ok (.iinc 3 1, 3) := by decide +kernel
theorem dX9_holds_237 : decode cX9_holds 237 = .ok (.iinc 4 1, 3) := by decide +kernel
theorem dX9_holds_240 : decode cX9_holds 240 = .ok (.goto (-230), 3) := by decide +kernel
theorem dX9_holds_243 : decode cX9_holds 243 = .ok (.aload_n 0, 1) := by decide +kernel
theorem dX9_holds_244 : decode cX9_holds 244 = .ok (.getfield 98, 3) := by decide +kernel
theorem dX9_holds_247 : decode cX9_holds 247 = .ok (.iconst 0, 1) := by decide +kernel
theorem dX9_holds_248 : decode cX9_holds 248 = .ok (.baload, 1) := by decide +kernel
theorem dX9_holds_249 : decode cX9_holds 249 = .ok (.ireturn, 1) := by decide +kernel
theorem dX9_sumOf_0 : decode cX9_sumOf 0 = .ok (.iconst 0, 1) := by decide +kernel
theorem dX9_sumOf_1 : decode cX9_sumOf 1 = .ok (.istore_n 3, 1) := by decide +kernel
theorem dX9_sumOf_2 : decode cX9_sumOf 2 = .ok (.aload_n 0, 1) := by decide +kernel
theorem dX9_sumOf_3 : decode cX9_sumOf 3 = .ok (.invokevirtual 267, 3) := by decide +kernel
theorem dX9_sumOf_6 : decode cX9_sumOf 6 = .ok (.istore 4, 2) := by decide +kernel
theorem dX9_sumOf_8 : decode cX9_sumOf 8 = .ok (.iload 4, 2) := by decide +kernel
theorem dX9_sumOf_10 : decode cX9_sumOf 10 = .ok (.aload_n 0, 1) := by decide +kernel
theorem dX9_sumOf_11 : decode cX9_sumOf 11 = .ok (.invokevirtual 270, 3) := by decide +kernel
theorem dX9_sumOf_14 : decode cX9_sumOf 14 = .ok (.if_icmp .ge 44, 3) := by decide +kernel
theorem dX9_sumOf_17 : decode cX9_sumOf 17 = .ok (.iload_n 3, 1) := by decide +kernel
theorem dX9_sumOf_18 : decode cX9_sumOf 18 = .ok (.aload_n 0, 1) := by decide +kernel
theorem dX9_sumOf_19 : decode cX9_sumOf 19 = .ok (.getfield 68, 3) := by decide +kernel
theorem dX9_sumOf_22 : decode cX9_sumOf 22 = .ok (.iload 4, 2) := by decide +kernel
theorem dX9_sumOf_24 : decode cX9_sumOf 24 = .ok (.iaload, 1) := by decide +kernel
theorem dX9_sumOf_25 : decode cX9_sumOf 25 = .ok (.iload_n 1, 1) := by decide +kernel
theorem dX9_sumOf_26 : decode cX9_sumOf 26 = .ok (.if_icmp .ne 23, 3) := by decide +kernel
theorem dX9_sumOf_29 : decode cX9_sumOf 29 = .ok (.aload_n 0, 1) := by decide +kernel
theorem dX9_sumOf_30 : decode cX9_sumOf 30 = .ok (.iload 4, 2) := by decide +kernel
theorem dX9_sumOf_32 : decode cX9_sumOf 32 = .ok (.iload_n 2, 1) := by decide +kernel
theorem dX9_sumOf_33 : decode cX9_sumOf 33 = .ok (.invokevirtual 277, 3) := by decide +kernel
theorem dX9_sumOf_36 : decode cX9_sumOf 36 = .ok (.ifCond .eq 13, 3) := by decide +kernel
theorem dX9_sumOf_39 : decode cX9_sumOf 39 = .ok (.aload_n 0, 1) := by decide +kernel
theorem dX9_sumOf_40 : decode cX9_sumOf 40 = .ok (.getfield 71, 3) := by decide +kernel
theorem dX9_sumOf_43 : decode cX9_sumOf 43 = .ok (.iload 4, 2) := by decide +kernel
theorem dX9_sumOf_45 : decode cX9_sumOf 45 = .ok (.iaload, 1) := by decide +kernel
theorem dX9_sumOf_46 : decode cX9_sumOf 46 = .ok (.goto 4, 3) := by decide +kernel
theorem dX9_sumOf_49 : decode cX9_sumOf 49 = .ok (.iconst 0, 1) := by decide +kernel
theorem dX9_sumOf_50 : decode cX9_sumOf 50 = .ok (.iadd, 1) := by decide +kernel
theorem dX9_sumOf_51 : decode cX9_sumOf 51 = .ok (.istore_n 3, 1) := by decide +kernel
theorem dX9_sumOf_52 : decode cX9_sumOf 52 = .ok (.iinc 4 1, 3) := by decide +kernel
theorem dX9_sumOf_55 : decode cX9_sumOf 55 = .ok (.goto (-47), 3) := by decide +kernel
theorem dX9_sumOf_58 : decode cX9_sumOf 58 = .ok (.iload_n 3, 1) := by decide +kernel
theorem dX9_sumOf_59 : decode cX9_sumOf 59 = .ok (.ireturn, 1) := by decide +kernel
theorem dX9_swellOf_0 : decode cX9_swellOf 0 = .ok (.aload_n 0, 1) := by decide +kernel
theorem dX9_swellOf_1 : decode cX9_swellOf 1 = .ok (.invokevirtual 280, 3) := by decide +kernel
theorem dX9_swellOf_4 : decode cX9_swellOf 4 = .ok (.ifCond .eq 12, 3) := by decide +kernel
theorem dX9_swellOf_7 : decode cX9_swellOf 7 = .ok (.aload_n 0, 1) := by decide +kernel
theorem dX9_swellOf_8 : decode cX9_swellOf 8 = .ok (.iconst 0, 1) := by decide +kernel
theorem dX9_swellOf_9 : decode cX9_swellOf 9 = .ok (.iload_n 1, 1) := by decide +kernel
theorem dX9_swellOf_10 : decode cX9_swellOf 10 = .ok (.invokevirtual 283, 3) := by decide +kernel
theorem dX9_swellOf_13 : decode cX9_swellOf 13 = .ok (.goto 4, 3) := by decide +kernel
theorem dX9_swellOf_16 : decode cX9_swellOf 16 = .ok (.iconst 1, 1) := by decide +kernel
theorem dX9_swellOf_17 : decode cX9_swellOf 17 = .ok (.aload_n 0, 1) := by decide +kernel
theorem dX9_swellOf_18 : decode cX9_swellOf 18 = .ok (.getfield 29, 3) := by decide +kernel
theorem dX9_swellOf_21 : decode cX9_swellOf 21 = .ok (.iload_n 1, 1) := by decide +kernel
theorem dX9_swellOf_22 : decode cX9_swellOf 22 = .ok (.iaload, 1) := by decide +kernel
theorem dX9_swellOf_23 : decode cX9_swellOf 23 = .ok (.aload_n 0, 1) := by decide +kernel
theorem dX9_swellOf_24 : decode cX9_swellOf 24 = .ok (.getfield 32, 3) := by decide +kernel
theorem dX9_swellOf_27 : decode cX9_swellOf 27 = .ok (.iload_n 1, 1) := by decide +kernel
theorem dX9_swellOf_28 : decode cX9_swellOf 28 = .ok (.iaload, 1) := by decide +kernel
theorem dX9_swellOf_29 : decode cX9_swellOf 29 = .ok (.iadd, 1) := by decide +kernel
theorem dX9_swellOf_30 : decode cX9_swellOf 30 = .ok (.iconst 2, 1) := by decide +kernel
theorem dX9_swellOf_31 : decode cX9_swellOf 31 = .ok (.idiv, 1) := by decide +kernel
theorem dX9_swellOf_32 : decode cX9_swellOf 32 = .ok (.imul, 1) := by decide +kernel
theorem dX9_swellOf_33 : decode cX9_swellOf 33 = .ok (.bipush 20, 2) := by decide +kernel
theorem dX9_swellOf_35 : decode cX9_swellOf 35 = .ok (.idiv, 1) := by decide +kernel
theorem dX9_swellOf_36 : decode cX9_swellOf 36 = .ok (.istore_n 2, 1) := by decide +kernel
theorem dX9_swellOf_37 : decode cX9_swellOf 37 = .ok (.aload_n 0, 1) := by decide +kernel
theorem dX9_swellOf_38 : decode cX9_swellOf 38 = .ok (.getfield 23, 3) := by decide +kernel
theorem dX9_swellOf_41 : decode cX9_swellOf 41 = .ok (.iload_n 1, 1) := by decide +kernel
theorem dX9_swellOf_42 : decode cX9_swellOf 42 = .ok (.iaload, 1) := by decide +kernel
theorem dX9_swellOf_43 : decode cX9_swellOf 43 = .ok (.tableswitch 66 1 5 #[33, 66, 66, 42, 53], 33) := by decide +kernel
theorem dX9_swellOf_76 : decode cX9_swellOf 76 = .ok (.iload_n 2, 1) := by decide +kernel
theorem dX9_swellOf_77 : decode cX9_swellOf 77 = .ok (.aload_n 0, 1) := by decide +kernel
theorem dX9_swellOf_78 : decode cX9_swellOf 78 = .ok (.getfield 26, 3) := by decide +kernel
theorem dX9_swellOf_81 : decode cX9_swellOf 81 = .ok (.iload_n 1, 1) := by decide +kernel
theorem dX9_swellOf_82 : decode cX9_swellOf 82 = .ok (.iaload, 1) := by decide +kernel
theorem dX9_swellOf_83 : decode cX9_swellOf 83 = .ok (.iadd, 1) := by decide +kernel
theorem dX9_swellOf_84 : decode cX9_swellOf 84 = .ok (.ireturn, 1) := by decide +kernel
theorem dX9_swellOf_85 : decode cX9_swellOf 85 = .ok (.iload_n 2, 1) := by decide +kernel
theorem dX9_swellOf_86 : decode cX9_swellOf 86 = .ok (.aload_n 0, 1) := by decide +kernel
theorem dX9_swellOf_87 : decode cX9_swellOf 87 = .ok (.getfield 26, 3) := by decide +kernel
theorem dX9_swellOf_90 : decode cX9_swellOf 90 = .ok (.iload_n 1, 1) := by decide +kernel
theorem dX9_swellOf_91 : decode cX9_swellOf 91 = .ok (.iaload, 1) := by decide +kernel
theorem dX9_swellOf_92 : decode cX9_swellOf 92 = .ok (.iadd, 1) := by decide +kernel
theorem dX9_swellOf_93 : decode cX9_swellOf 93 = .ok (.iconst 2, 1) := by decide +kernel
theorem dX9_swellOf_94 : decode cX9_swellOf 94 = .ok (.idiv, 1) := by decide +kernel
theorem dX9_swellOf_95 : decode cX9_swellOf 95 = .ok (.ireturn, 1) := by decide +kernel
theorem dX9_swellOf_96 : decode cX9_swellOf 96 = .ok (.iload_n 2, 1) := by decide +kernel
theorem dX9_swellOf_97 : decode cX9_swellOf 97 = .ok (.iconst 2, 1) := by decide +kernel
theorem dX9_swellOf_98 : decode cX9_swellOf 98 = .ok (.if_icmp .ge 7, 3) := by decide +kernel
theorem dX9_swellOf_101 : decode cX9_swellOf 101 = .ok (.iconst 0, 1) := by decide +kernel
theorem dX9_swellOf_102 : decode cX9_swellOf 102 = .ok (.goto 6, 3) := by decide +kernel
theorem dX9_swellOf_105 : decode cX9_swellOf 105 = .ok (.iload_n 2, 1) := by decide +kernel
theorem dX9_swellOf_106 : decode cX9_swellOf 106 = .ok (.iconst 2, 1) := by decide +kernel
theorem dX9_swellOf_107 : decode cX9_swellOf 107 = .ok (.isub, 1) := by decide +kernel
theorem dX9_swellOf_108 : decode cX9_swellOf 108 = .ok (.ireturn, 1) := by decide +kernel
theorem dX9_swellOf_109 : decode cX9_swellOf 109 = .ok (.iload_n 2, 1) := by decide +kernel
theorem dX9_swellOf_110 : decode cX9_swellOf 110 = .ok (.ireturn, 1) := by decide +kernel
theorem dX9_bendOf_0 : decode cX9_bendOf 0 = .ok (.aload_n 0, 1) := by decide +kernel
theorem dX9_bendOf_1 : decode cX9_bendOf 1 = .ok (.getfield 29, 3) := by decide +kernel
theorem dX9_bendOf_4 : decode cX9_bendOf 4 = .ok (.iload_n 1, 1) := by decide +kernel
theorem dX9_bendOf_5 : decode cX9_bendOf 5 = .ok (.iaload, 1) := by decide +kernel
theorem dX9_bendOf_6 : decode cX9_bendOf 6 = .ok (.aload_n 0, 1) := by decide +kernel
theorem dX9_bendOf_7 : decode cX9_bendOf 7 = .ok (.getfield 32, 3) := by decide +kernel
theorem dX9_bendOf_10 : decode cX9_bendOf 10 = .ok (.iload_n 1, 1) := by decide +kernel
theorem dX9_bendOf_11 : decode cX9_bendOf 11 = .ok (.iaload, 1) := by decide +kernel
theorem dX9_bendOf_12 : decode cX9_bendOf 12 = .ok (.if_icmp .le 19, 3) := by decide +kernel
theorem dX9_bendOf_15 : decode cX9_bendOf 15 = .ok (.aload_n 0, 1) := by decide +kernel
theorem dX9_bendOf_16 : decode cX9_bendOf 16 = .ok (.getfield 29, 3) := by decide +kernel
theorem dX9_bendOf_19 : decode cX9_bendOf 19 = .ok (.iload_n 1, 1) := by decide +kernel
theorem dX9_bendOf_20 : decode cX9_bendOf 20 = .ok (.iaload, 1) := by decide +kernel
theorem dX9_bendOf_21 : decode cX9_bendOf 21 = .ok (.aload_n 0, 1) := by decide +kernel
theorem dX9_bendOf_22 : decode cX9_bendOf 22 = .ok (.getfield 32, 3) := by decide +kernel
theorem dX9_bendOf_25 : decode cX9_bendOf 25 = .ok (.iload_n 1, 1) := by decide +kernel
theorem dX9_bendOf_26 : decode cX9_bendOf 26 = .ok (.iaload, 1) := by decide +kernel
theorem dX9_bendOf_27 : decode cX9_bendOf 27 = .ok (.isub, 1) := by decide +kernel
theorem dX9_bendOf_28 : decode cX9_bendOf 28 = .ok (.goto 16, 3) := by decide +kernel
theorem dX9_bendOf_31 : decode cX9_bendOf 31 = .ok (.aload_n 0, 1) := by decide +kernel
theorem dX9_bendOf_32 : decode cX9_bendOf 32 = .ok (.getfield 32, 3) := by decide +kernel
theorem dX9_bendOf_35 : decode cX9_bendOf 35 = .ok (.iload_n 1, 1) := by decide +kernel
theorem dX9_bendOf_36 : decode cX9_bendOf 36 = .ok (.iaload, 1) := by decide +kernel
theorem dX9_bendOf_37 : decode cX9_bendOf 37 = .ok (.aload_n 0, 1) := by decide +kernel
theorem dX9_bendOf_38 : decode cX9_bendOf 38 = .ok (.getfield 29, 3) := by decide +kernel
theorem dX9_bendOf_41 : decode cX9_bendOf 41 = .ok (.iload_n 1, 1) := by decide +kernel
theorem dX9_bendOf_42 : decode cX9_bendOf 42 = .ok (.iaload, 1) := by decide +kernel
theorem dX9_bendOf_43 : decode cX9_bendOf 43 = .ok (.isub, 1) := by decide +kernel
theorem dX9_bendOf_44 : decode cX9_bendOf 44 = .ok (.istore_n 2, 1) := by decide +kernel
theorem dX9_bendOf_45 : decode cX9_bendOf 45 = .ok (.aload_n 0, 1) := by decide +kernel
theorem dX9_bendOf_46 : decode cX9_bendOf 46 = .ok (.getfield 23, 3) := by decide +kernel
theorem dX9_bendOf_49 : decode cX9_bendOf 49 = .ok (.iload_n 1, 1) := by decide +kernel
theorem dX9_bendOf_50 : decode cX9_bendOf 50 = .ok (.iaload, 1) := by decide +kernel
theorem dX9_bendOf_51 : decode cX9_bendOf 51 = .ok (.iconst 2, 1) := by decide +kernel
theorem dX9_bendOf_52 : decode cX9_bendOf 52 = .ok (.if_icmp .eq 13, 3) := by decide +kernel
theorem dX9_bendOf_55 : decode cX9_bendOf 55 = .ok (.aload_n 0, 1) := by decide +kernel
theorem dX9_bendOf_56 : decode cX9_bendOf 56 = .ok (.getfield 23, 3) := by decide +kernel
theorem dX9_bendOf_59 : decode cX9_bendOf 59 = .ok (.iload_n 1, 1) := by decide +kernel
theorem dX9_bendOf_60 : decode cX9_bendOf 60 = .ok (.iaload, 1) := by decide +kernel
theorem dX9_bendOf_61 : decode cX9_bendOf 61 = .ok (.iconst 5, 1) := by decide +kernel
theorem dX9_bendOf_62 : decode cX9_bendOf 62 = .ok (.if_icmp .ne 12, 3) := by decide +kernel
theorem dX9_bendOf_65 : decode cX9_bendOf 65 = .ok (.iload_n 2, 1) := by decide +kernel
theorem dX9_bendOf_66 : decode cX9_bendOf 66 = .ok (.bipush 10, 2) := by decide +kernel
theorem dX9_bendOf_68 : decode cX9_bendOf 68 = .ok (.idiv, 1) := by decide +kernel
theorem dX9_bendOf_69 : decode cX9_bendOf 69 = .ok (.iconst 2, 1) := by decide +kernel
theorem dX9_bendOf_70 : decode cX9_bendOf 70 = .ok (.imul, 1) := by decide +kernel
theorem dX9_bendOf_71 : decode cX9_bendOf 71 = .ok (.goto 7, 3) := by decide +kernel
theorem dX9_bendOf_74 : decode cX9_bendOf 74 = .ok (.iload_n 2, 1) := by decide +kernel
theorem dX9_bendOf_75 : decode cX9_bendOf 75 = .ok (.bipush 10, 2) := by decide +kernel
theorem dX9_bendOf_77 : decode cX9_bendOf 77 = .ok (.idiv, 1) := by decide +kernel
theorem dX9_bendOf_78 : decode cX9_bendOf 78 = .ok (.ireturn, 1) := by decide +kernel
theorem dX9_hangOf_0 : decode cX9_hangOf 0 = .ok (.aload_n 0, 1) := by decide +kernel
theorem dX9_hangOf_1 : decode cX9_hangOf 1 = .ok (.getfield 38, 3) := by decide +kernel
theorem dX9_hangOf_4 : decode cX9_hangOf 4 = .ok (.iload_n 1, 1) := by decide +kernel
theorem dX9_hangOf_5 : decode cX9_hangOf 5 = .ok (.iaload, 1) := by decide +kernel
theorem dX9_hangOf_6 : decode cX9_hangOf 6 = .ok (.aload_n 0, 1) := by decide +kernel
theorem dX9_hangOf_7 : decode cX9_hangOf 7 = .ok (.getfield 41, 3) := by decide +kernel
theorem dX9_hangOf_10 : decode cX9_hangOf 10 = .ok (.iload_n 1, 1) := by decide +kernel
theorem dX9_hangOf_11 : decode cX9_hangOf 11 = .ok (.iaload, 1) := by decide +kernel
theorem dX9_hangOf_12 : decode cX9_hangOf 12 = .ok (.if_icmp .le 19, 3) := by decide +kernel
theorem dX9_hangOf_15 : decode cX9_hangOf 15 = .ok (.aload_n 0, 1) := by decide +kernel
theorem dX9_hangOf_16 : decode cX9_hangOf 16 = .ok (.getfield 38, 3) := by decide +kernel
theorem dX9_hangOf_19 : decode cX9_hangOf 19 = .ok (.iload_n 1, 1) := by decide +kernel
theorem dX9_hangOf_20 : decode cX9_hangOf 20 = .ok (.iaload, 1) := by decide +kernel
theorem dX9_hangOf_21 : decode cX9_hangOf 21 = .ok (.aload_n 0, 1) := by decide +kernel
theorem dX9_hangOf_22 : decode cX9_hangOf 22 = .ok (.getfield 41, 3) := by decide +kernel
theorem dX9_hangOf_25 : decode cX9_hangOf 25 = .ok (.iload_n 1, 1) := by decide +kernel
theorem dX9_hangOf_26 : decode cX9_hangOf 26 = .ok (.iaload, 1) := by decide +kernel
theorem dX9_hangOf_27 : decode cX9_hangOf 27 = .ok (.isub, 1) := by decide +kernel
theorem dX9_hangOf_28 : decode cX9_hangOf 28 = .ok (.goto 4, 3) := by decide +kernel
theorem dX9_hangOf_31 : decode cX9_hangOf 31 = .ok (.iconst 0, 1) := by decide +kernel
theorem dX9_hangOf_32 : decode cX9_hangOf 32 = .ok (.istore_n 2, 1) := by decide +kernel
theorem dX9_hangOf_33 : decode cX9_hangOf 33 = .ok (.aload_n 0, 1) := by decide +kernel
theorem dX9_hangOf_34 : decode cX9_hangOf 34 = .ok (.getfield 23, 3) := by decide +kernel
theorem dX9_hangOf_37 : decode cX9_hangOf 37 = .ok (.iload_n 1, 1) := by decide +kernel
theorem dX9_hangOf_38 : decode cX9_hangOf 38 = .ok (.iaload, 1) := by decide +kernel
theorem dX9_hangOf_39 : decode cX9_hangOf 39 = .ok (.lookupswitch 50 #[(3, 25), (6, 34)], 25) := by decide +kernel
theorem dX9_hangOf_64 : decode cX9_hangOf 64 = .ok (.iload_n 2, 1) := by decide +kernel
theorem dX9_hangOf_65 : decode cX9_hangOf 65 = .ok (.aload_n 0, 1) := by decide +kernel
theorem dX9_hangOf_66 : decode cX9_hangOf 66 = .ok (.getfield 26, 3) := by decide +kernel
theorem dX9_hangOf_69 : decode cX9_hangOf 69 = .ok (.iload_n 1, 1) := by decide +kernel
theorem dX9_hangOf_70 : decode cX9_hangOf 70 = .ok (.iaload, 1) := by decide +kernel
theorem dX9_hangOf_71 : decode cX9_hangOf 71 = .ok (.iadd, 1) := by decide +kernel
theorem dX9_hangOf_72 : decode cX9_hangOf 72 = .ok (.ireturn, 1) := by decide +kernel
theorem dX9_hangOf_73 : decode cX9_hangOf 73 = .ok (.iload_n 2, 1) := by decide +kernel
theorem dX9_hangOf_74 : decode cX9_hangOf 74 = .ok (.aload_n 0, 1) := by decide +kernel
theorem dX9_hangOf_75 : decode cX9_hangOf 75 = .ok (.getfield 26, 3) := by decide +kernel
theorem dX9_hangOf_78 : decode cX9_hangOf 78 = .ok (.iload_n 1, 1) := by decide +kernel
theorem dX9_hangOf_79 : decode cX9_hangOf 79 = .ok (.iaload, 1) := by decide +kernel
theorem dX9_hangOf_80 : decode cX9_hangOf 80 = .ok (.iadd, 1) := by decide +kernel
theorem dX9_hangOf_81 : decode cX9_hangOf 81 = .ok (.aload_n 0, 1) := by decide +kernel
theorem dX9_hangOf_82 : decode cX9_hangOf 82 = .ok (.getfield 17, 3) := by decide +kernel
theorem dX9_hangOf_85 : decode cX9_hangOf 85 = .ok (.iconst 2, 1) := by decide +kernel
theorem dX9_hangOf_86 : decode cX9_hangOf 86 = .ok (.idiv, 1) := by decide +kernel
theorem dX9_hangOf_87 : decode cX9_hangOf 87 = .ok (.iadd, 1) := by decide +kernel
theorem dX9_hangOf_88 : decode cX9_hangOf 88 = .ok (.ireturn, 1) := by decide +kernel
theorem dX9_hangOf_89 : decode cX9_hangOf 89 = .ok (.iload_n 2, 1) := by decide +kernel
theorem dX9_hangOf_90 : decode cX9_hangOf 90 = .ok (.ireturn, 1) := by decide +kernel
theorem dX9_gapBy_0 : decode cX9_gapBy 0 = .ok (.aload_n 0, 1) := by decide +kernel
theorem dX9_gapBy_1 : decode cX9_gapBy 1 = .ok (.getfield 44, 3) := by decide +kernel
theorem dX9_gapBy_4 : decode cX9_gapBy 4 = .ok (.bipush 6, 2) := by decide +kernel
theorem dX9_gapBy_6 : decode cX9_gapBy 6 = .ok (.iload_n 1, 1) := by decide +kernel
theorem dX9_gapBy_7 : decode cX9_gapBy 7 = .ok (.imul, 1) := by decide +kernel
theorem dX9_gapBy_8 : decode cX9_gapBy 8 = .ok (.iload_n 2, 1) := by decide +kernel
theorem dX9_gapBy_9 : decode cX9_gapBy 9 = .ok (.iadd, 1) := by decide +kernel
theorem dX9_gapBy_10 : decode cX9_gapBy 10 = .ok (.iaload, 1) := by decide +kernel
theorem dX9_gapBy_11 : decode cX9_gapBy 11 = .ok (.istore 7, 2) := by decide +kernel
theorem dX9_gapBy_13 : decode cX9_gapBy 13 = .ok (.iload_n 2, 1) := by decide +kernel
theorem dX9_gapBy_14 : decode cX9_gapBy 14 = .ok (.tableswitch 77 0 4 #[34, 40, 49, 60, 71], 34) := by decide +kernel
theorem dX9_gapBy_48 : decode cX9_gapBy 48 = .ok (.iload 7, 2) := by decide +kernel
theorem dX9_gapBy_50 : decode cX9_gapBy 50 = .ok (.iload 5, 2) := by decide +kernel
theorem dX9_gapBy_52 : decode cX9_gapBy 52 = .ok (.isub, 1) := by decide +kernel
theorem dX9_gapBy_53 : decode cX9_gapBy 53 = .ok (.ireturn, 1) := by decide +kernel
theorem dX9_gapBy_54 : decode cX9_gapBy 54 = .ok (.iload 7, 2) := by decide +kernel
theorem dX9_gapBy_56 : decode cX9_gapBy 56 = .ok (.iload 4, 2) := by decide +kernel
theorem dX9_gapBy_58 : decode cX9_gapBy 58 = .ok (.iadd, 1) := by decide +kernel
theorem dX9_gapBy_59 : decode cX9_gapBy 59 = .ok (.iload 5, 2) := by decide +kernel
theorem dX9_gapBy_61 : decode cX9_gapBy 61 = .ok (.isub, 1) := by decide +kernel
theorem dX9_gapBy_62 : decode cX9_gapBy 62 = .ok (.ireturn, 1) := by decide +kernel
theorem dX9_gapBy_63 : decode cX9_gapBy 63 = .ok (.iload 7, 2) := by decide +kernel
theorem dX9_gapBy_65 : decode cX9_gapBy 65 = .ok (.iload_n 3, 1) := by decide +kernel
theorem dX9_gapBy_66 : decode cX9_gapBy 66 = .ok (.isub, 1) := by decide +kernel
theorem dX9_gapBy_67 : decode cX9_gapBy 67 = .ok (.iload 4, 2) := by decide +kernel
theorem dX9_gapBy_69 : decode cX9_gapBy 69 = .ok (.isub, 1) := by decide +kernel
theorem dX9_gapBy_70 : decode cX9_gapBy 70 = .ok (.iload 6, 2) := by decide +kernel
theorem dX9_gapBy_72 : decode cX9_gapBy 72 = .ok (.isub, 1) := by decide +kernel
theorem dX9_gapBy_73 : decode cX9_gapBy 73 = .ok (.ireturn, 1) := by decide +kernel
theorem dX9_gapBy_74 : decode cX9_gapBy 74 = .ok (.iload 7, 2) := by decide +kernel
theorem dX9_gapBy_76 : decode cX9_gapBy 76 = .ok (.iload_n 3, 1) := by decide +kernel
theorem dX9_gapBy_77 : decode cX9_gapBy 77 = .ok (.isub, 1) := by decide +kernel
theorem dX9_gapBy_78 : decode cX9_gapBy 78 = .ok (.iload 4, 2) := by decide +kernel
theorem dX9_gapBy_80 : decode cX9_gapBy 80 = .ok (.iadd, 1) := by decide +kernel
theorem dX9_gapBy_81 : decode cX9_gapBy 81 = .ok (.iload 6, 2) := by decide +kernel
theorem dX9_gapBy_83 : decode cX9_gapBy 83 = .ok (.isub, 1) := by decide +kernel
theorem dX9_gapBy_84 : decode cX9_gapBy 84 = .ok (.ireturn, 1) := by decide +kernel
theorem dX9_gapBy_85 : decode cX9_gapBy 85 = .ok (.iload 7, 2) := by decide +kernel
theorem dX9_gapBy_87 : decode cX9_gapBy 87 = .ok (.iload 4, 2) := by decide +kernel
theorem dX9_gapBy_89 : decode cX9_gapBy 89 = .ok (.isub, 1) := by decide +kernel
theorem dX9_gapBy_90 : decode cX9_gapBy 90 = .ok (.ireturn, 1) := by decide +kernel
theorem dX9_gapBy_91 : decode cX9_gapBy 91 = .ok (.iload 7, 2) := by decide +kernel
theorem dX9_gapBy_93 : decode cX9_gapBy 93 = .ok (.aload_n 0, 1) := by decide +kernel
theorem dX9_gapBy_94 : decode cX9_gapBy 94 = .ok (.getfield 41, 3) := by decide +kernel
theorem dX9_gapBy_97 : decode cX9_gapBy 97 = .ok (.iload_n 1, 1) := by decide +kernel
theorem dX9_gapBy_98 : decode cX9_gapBy 98 = .ok (.iaload, 1) := by decide +kernel
theorem dX9_gapBy_99 : decode cX9_gapBy 99 = .ok (.isub, 1) := by decide +kernel
theorem dX9_gapBy_100 : decode cX9_gapBy 100 = .ok (.ireturn, 1) := by decide +kernel
theorem dX9_gap_0 : decode cX9_gap 0 = .ok (.aload_n 0, 1) := by decide +kernel
theorem dX9_gap_1 : decode cX9_gap 1 = .ok (.iload_n 1, 1) := by decide +kernel
theorem dX9_gap_2 : decode cX9_gap 2 = .ok (.iload_n 2, 1) := by decide +kernel
theorem dX9_gap_3 : decode cX9_gap 3 = .ok (.aload_n 0, 1) := by decide +kernel
theorem dX9_gap_4 : decode cX9_gap 4 = .ok (.iload_n 1, 1) := by decide +kernel
theorem dX9_gap_5 : decode cX9_gap 5 = .ok (.invokevirtual 286, 3) := by decide +kernel
theorem dX9_gap_8 : decode cX9_gap 8 = .ok (.aload_n 0, 1) := by decide +kernel
theorem dX9_gap_9 : decode cX9_gap 9 = .ok (.iload_n 1, 1) := by decide +kernel
theorem dX9_gap_10 : decode cX9_gap 10 = .ok (.invokevirtual 289, 3) := by decide +kernel
theorem dX9_gap_13 : decode cX9_gap 13 = .ok (.aload_n 0, 1) := by decide +kernel
theorem dX9_gap_14 : decode cX9_gap 14 = .ok (.getfield 17, 3) := by decide +kernel
theorem dX9_gap_17 : decode cX9_gap 17 = .ok (.aload_n 0, 1) := by decide +kernel
theorem dX9_gap_18 : decode cX9_gap 18 = .ok (.iload_n 1, 1) := by decide +kernel
theorem dX9_gap_19 : decode cX9_gap 19 = .ok (.invokevirtual 292, 3) := by decide +kernel
theorem dX9_gap_22 : decode cX9_gap 22 = .ok (.invokevirtual 295, 3) := by decide +kernel
theorem dX9_gap_25 : decode cX9_gap 25 = .ok (.ireturn, 1) := by decide +kernel
theorem dX9_rubs_0 : decode cX9_rubs 0 = .ok (.iconst 0, 1) := by decide +kernel
theorem dX9_rubs_1 : decode cX9_rubs 1 = .ok (.istore_n 2, 1) := by decide +kernel
theorem dX9_rubs_2 : decode cX9_rubs 2 = .ok (.iconst 0, 1) := by decide +kernel
theorem dX9_rubs_3 : decode cX9_rubs 3 = .ok (.istore_n 3, 1) := by decide +kernel
theorem dX9_rubs_4 : decode cX9_rubs 4 = .ok (.iload_n 3, 1) := by decide +kernel
theorem dX9_rubs_5 : decode cX9_rubs 5 = .ok (.bipush 6, 2) := by decide +kernel
theorem dX9_rubs_7 : decode cX9_rubs 7 = .ok (.if_icmp .ge 28, 3) := by decide +kernel
theorem dX9_rubs_10 : decode cX9_rubs 10 = .ok (.iload_n 2, 1) := by decide +kernel
theorem dX9_rubs_11 : decode cX9_rubs 11 = .ok (.aload_n 0, 1) := by decide +kernel
theorem dX9_rubs_12 : decode cX9_rubs 12 = .ok (.iload_n 1, 1) := by decide +kernel
theorem dX9_rubs_13 : decode cX9_rubs 13 = .ok (.iload_n 3, 1) := by decide +kernel
theorem dX9_rubs_14 : decode cX9_rubs 14 = .ok (.invokevirtual 299, 3) := by decide +kernel
theorem dX9_rubs_17 : decode cX9_rubs 17 = .ok (.ifCond .ge 9, 3) := by decide +kernel
theorem dX9_rubs_20 : decode cX9_rubs 20 = .ok (.iconst 1, 1) := by decide +kernel
theorem dX9_rubs_21 : decode cX9_rubs 21 = .ok (.iload_n 3, 1) := by decide +kernel
theorem dX9_rubs_22 : decode cX9_rubs 22 = .ok (.ishl, 1) := by decide +kernel
theorem dX9_rubs_23 : decode cX9_rubs 23 = .ok (.goto 4, 3) := by decide +kernel
theorem dX9_rubs_26 : decode cX9_rubs 26 = .ok (.iconst 0, 1) := by decide +kernel
theorem dX9_rubs_27 : decode cX9_rubs 27 = .ok (.ior, 1) := by decide +kernel
theorem dX9_rubs_28 : decode cX9_rubs 28 = .ok (.istore_n 2, 1) := by decide +kernel
theorem dX9_rubs_29 : decode cX9_rubs 29 = .ok (.iinc 3 1, 3) := by decide +kernel
theorem dX9_rubs_32 : decode cX9_rubs 32 = .ok (.goto (-28), 3) := by decide +kernel
theorem dX9_rubs_35 : decode cX9_rubs 35 = .ok (.iload_n 2, 1) := by decide +kernel
theorem dX9_rubs_36 : decode cX9_rubs 36 = .ok (.ireturn, 1) := by decide +kernel
theorem dX9_draughts_0 : decode cX9_draughts 0 = .ok (.iconst 0, 1) := by decide +kernel
theorem dX9_draughts_1 : decode cX9_draughts 1 = .ok (.istore_n 2, 1) := by decide +kernel
theorem dX9_draughts_2 : decode cX9_draughts 2 = .ok (.iconst 0, 1) := by decide +kernel
theorem dX9_draughts_3 : decode cX9_draughts 3 = .ok (.istore_n 3, 1) := by decide +kernel
theorem dX9_draughts_4 : decode cX9_draughts 4 = .ok (.iload_n 3, 1) := by decide +kernel
theorem dX9_draughts_5 : decode cX9_draughts 5 = .ok (.bipush 6, 2) := by decide +kernel
theorem dX9_draughts_7 : decode cX9_draughts 7 = .ok (.if_icmp .ge 35, 3) := by decide +kernel
theorem dX9_draughts_10 : decode cX9_draughts 10 = .ok (.iload_n 2, 1) := by decide +kernel
theorem dX9_draughts_11 : decode cX9_draughts 11 = .ok (.aload_n 0, 1) := by decide +kernel
theorem dX9_draughts_12 : decode cX9_draughts 12 = .ok (.iload_n 1, 1) := by decide +kernel
theorem dX9_draughts_13 : decode cX9_draughts 13 = .ok (.iload_n 3, 1) := by decide +kernel
theorem dX9_draughts_14 : decode cX9_draughts 14 = .ok (.invokevirtual 299, 3) := by decide +kernel
theorem dX9_draughts_17 : decode cX9_draughts 17 = .ok (.aload_n 0, 1) := by decide +kernel
theorem dX9_draughts_18 : decode cX9_draughts 18 = .ok (.iconst 3, 1) := by decide +kernel
theorem dX9_draughts_19 : decode cX9_draughts 19 = .ok (.bipush 9, 2) := by decide +kernel
theorem dX9_draughts_21 : decode cX9_draughts 21 = .ok (.invokevirtual 302, 3) := by decide +kernel
theorem dX9_draughts_24 : decode cX9_draughts 24 = .ok (.if_icmp .le 9, 3) := by decide +kernel
theorem dX9_draughts_27 : decode cX9_draughts 27 = .ok (.iconst 1, 1) := by decide +kernel
theorem dX9_draughts_28 : decode cX9_draughts 28 = .ok (.iload_n 3, 1) := by decide +kernel
theorem dX9_draughts_29 : decode cX9_draughts 29 = .ok (.ishl, 1) := by decide +kernel
theorem dX9_draughts_30 : decode cX9_draughts 30 = .ok (.goto 4, 3) := by decide +kernel
theorem dX9_draughts_33 : decode cX9_draughts 33 = .ok (.iconst 0, 1) := by decide +kernel
theorem dX9_draughts_34 : decode cX9_draughts 34 = .ok (.ior, 1) := by decide +kernel
theorem dX9_draughts_35 : decode cX9_draughts 35 = .ok (.istore_n 2, 1) := by decide +kernel
theorem dX9_draughts_36 : decode cX9_draughts 36 = .ok (.iinc 3 1, 3) := by decide +kernel
theorem dX9_draughts_39 : decode cX9_draughts 39 = .ok (.goto (-35), 3) := by decide +kernel
theorem dX9_draughts_42 : decode cX9_draughts 42 = .ok (.iload_n 2, 1) := by decide +kernel
theorem dX9_draughts_43 : decode cX9_draughts 43 = .ok (.ireturn, 1) := by decide +kernel
theorem dX9_of_0 : decode cX9_of 0 = .ok (.aload_n 0, 1) := by decide +kernel
theorem dX9_of_1 : decode cX9_of 1 = .ok (.iload_n 1, 1) := by decide +kernel
theorem dX9_of_2 : decode cX9_of 2 = .ok (.invokevirtual 207, 3) := by decide +kernel
theorem dX9_of_5 : decode cX9_of 5 = .ok (.ifCond .ne 7, 3) := by decide +kernel
theorem dX9_of_8 : decode cX9_of 8 = .ok (.sipush (-10001), 3) := by decide +kernel
theorem dX9_of_11 : decode cX9_of 11 = .ok (.ireturn, 1) := by decide +kernel
theorem dX9_of_12 : decode cX9_of 12 = .ok (.aload_n 0, 1) := by decide +kernel
theorem dX9_of_13 : decode cX9_of 13 = .ok (.iload_n 2, 1) := by decide +kernel
theorem dX9_of_14 : decode cX9_of 14 = .ok (.bipush 20, 2) := by decide +kernel
theorem dX9_of_16 : decode cX9_of 16 = .ok (.bipush 25, 2) := by decide +kernel
theorem dX9_of_18 : decode cX9_of 18 = .ok (.invokevirtual 203, 3) := by decide +kernel
theorem dX9_of_21 : decode cX9_of 21 = .ok (.ifCond .eq 18, 3) := by decide +kernel
theorem dX9_of_24 : decode cX9_of 24 = .ok (.aload_n 0, 1) := by decide +kernel
theorem dX9_of_25 : decode cX9_of 25 = .ok (.getfield 44, 3) := by decide +kernel
theorem dX9_of_28 : decode cX9_of 28 = .ok (.bipush 6, 2) := by decide +kernel
theorem dX9_of_30 : decode cX9_of 30 = .ok (.iload_n 1, 1) := by decide +kernel
theorem dX9_of_31 : decode cX9_of 31 = .ok (.imul, 1) := by decide +kernel
theorem dX9_of_32 : decode cX9_of 32 = .ok (.iload_n 2, 1) := by decide +kernel
theorem dX9_of_33 : decode cX9_of 33 = .ok (.iadd, 1) := by decide +kernel
theorem dX9_of_34 : decode cX9_of 34 = .ok (.bipush 20, 2) := by decide +kernel
theorem dX9_of_36 : decode cX9_of 36 = .ok (.isub, 1) := by decide +kernel
theorem dX9_of_37 : decode cX9_of 37 = .ok (.iaload, 1) := by decide +kernel
theorem dX9_of_38 : decode cX9_of 38 = .ok (.ireturn, 1) := by decide +kernel
theorem dX9_of_39 : decode cX9_of 39 = .ok (.aload_n 0, 1) := by decide +kernel
theorem dX9_of_40 : decode cX9_of 40 = .ok (.iload_n 2, 1) := by decide +kernel
theorem dX9_of_41 : decode cX9_of 41 = .ok (.bipush 30, 2) := by decide +kernel
theorem dX9_of_43 : decode cX9_of 43 = .ok (.bipush 35, 2) := by decide +kernel
theorem dX9_of_45 : decode cX9_of 45 = .ok (.invokevirtual 203, 3) := by decide +kernel
theorem dX9_of_48 : decode cX9_of 48 = .ok (.ifCond .eq 13, 3) := by decide +kernel
theorem dX9_of_51 : decode cX9_of 51 = .ok (.aload_n 0, 1) := by decide +kernel
theorem dX9_of_52 : decode cX9_of 52 = .ok (.iload_n 1, 1) := by decide +kernel
theorem dX9_of_53 : decode cX9_of 53 = .ok (.iload_n 2, 1) := by decide +kernel
theorem dX9_of_54 : decode cX9_of 54 = .ok (.bipush 30, 2) := by decide +kernel
theorem dX9_of_56 : decode cX9_of 56 = .ok (.isub, 1) := by decide +kernel
theorem dX9_of_57 : decode cX9_of 57 = .ok (.invokevirtual 299, 3) := by decide +kernel
theorem dX9_of_60 : decode cX9_of 60 = .ok (.ireturn, 1) := by decide +kernel
theorem dX9_of_61 : decode cX9_of 61 = .ok (.iload_n 2, 1) := by decide +kernel
theorem dX9_of_62 : decode cX9_of 62 = .ok (.tableswitch 141 0 11 #[62, 69, 76, 83, 90, 97, 104, 111, 117, 123, 129, 135], 62) := by decide +kernel
theorem dX9_of_124 : decode cX9_of 124 = .ok (.aload_n 0, 1) := by decide +kernel
theorem dX9_of_125 : decode cX9_of 125 = .ok (.getfield 23, 3) := by decide +kernel
theorem dX9_of_128 : decode cX9_of 128 = .ok (.iload_n 1, 1) := by decide +kernel
theorem dX9_of_129 : decode cX9_of 129 = .ok (.iaload, 1) := by decide +kernel
theorem dX9_of_130 : decode cX9_of 130 = .ok (.ireturn, 1) := by decide +kernel
theorem dX9_of_131 : decode cX9_of 131 = .ok (.aload_n 0, 1) := by decide +kernel
theorem dX9_of_132 : decode cX9_of 132 = .ok (.getfield 26, 3) := by decide +kernel
theorem dX9_of_135 : decode cX9_of 135 = .ok (.iload_n 1, 1) := by decide +kernel
theorem dX9_of_136 : decode cX9_of 136 = .ok (.iaload, 1) := by decide +kernel
theorem dX9_of_137 : decode cX9_of 137 = .ok (.ireturn, 1) := by decide +kernel
theorem dX9_of_138 : decode cX9_of 138 = .ok (.aload_n 0, 1) := by decide +kernel
theorem dX9_of_139 : decode cX9_of 139 = .ok (.getfield 29, 3) := by decide +kernel
theorem dX9_of_142 : decode cX9_of 142 = .ok (.iload_n 1, 1) := by decide +kernel
theorem dX9_of_143 : decode cX9_of 143 = .ok (.iaload, 1) := by decide +kernel
theorem dX9_of_144 : decode cX9_of 144 = .ok (.ireturn, 1) := by decide +kernel
theorem dX9_of_145 : decode cX9_of 145 = .ok (.aload_n 0, 1) := by decide +kernel
theorem dX9_of_146 : decode cX9_of 146 = .ok (.getfield 32, 3) := by decide +kernel
theorem dX9_of_149 : decode cX9_of 149 = .ok (.iload_n 1, 1) := by decide +kernel
theorem dX9_of_150 : decode cX9_of 150 = .ok (.iaload, 1) := by decide +kernel
theorem dX9_of_151 : decode cX9_of 151 = .ok (.ireturn, 1) := by decide +kernel
theorem dX9_of_152 : decode cX9_of 152 = .ok (.aload_n 0, 1) := by decide +kernel
theorem dX9_of_153 : decode cX9_of 153 = .ok (.getfield 35, 3) := by decide +kernel
theorem dX9_of_156 : decode cX9_of 156 = .ok (.iload_n 1, 1) := by decide +kernel
theorem dX9_of_157 : decode cX9_of 157 = .ok (.iaload, 1) := by decide +kernel
theorem dX9_of_158 : decode cX9_of 158 = .ok (.ireturn, 1) := by decide +kernel
theorem dX9_of_159 : decode cX9_of 159 = .ok (.aload_n 0, 1) := by decide +kernel
theorem dX9_of_160 : decode cX9_of 160 = .ok (.getfield 38, 3) := by decide +kernel
theorem dX9_of_163 : decode cX9_of 163 = .ok (.iload_n 1, 1) := by decide +kernel
theorem dX9_of_164 : decode cX9_of 164 = .ok (.iaload, 1) := by decide +kernel
theorem dX9_of_165 : decode cX9_of 165 = .ok (.ireturn, 1) := by decide +kernel
theorem dX9_of_166 : decode cX9_of 166 = .ok (.aload_n 0, 1) := by decide +kernel
theorem dX9_of_167 : decode cX9_of 167 = .ok (.getfield 41, 3) := by decide +kernel
theorem dX9_of_170 : decode cX9_of 170 = .ok (.iload_n 1, 1) := by decide +kernel
theorem dX9_of_171 : decode cX9_of 171 = .ok (.iaload, 1) := by decide +kernel
theorem dX9_of_172 : decode cX9_of 172 = .ok (.ireturn, 1) := by decide +kernel
theorem dX9_of_173 : decode cX9_of 173 = .ok (.aload_n 0, 1) := by decide +kernel
theorem dX9_of_174 : decode cX9_of 174 = .ok (.iload_n 1, 1) := by decide +kernel
theorem dX9_of_175 : decode cX9_of 175 = .ok (.invokevirtual 286, 3) := by decide +kernel
theorem dX9_of_178 : decode cX9_of 178 = .ok (.ireturn, 1) := by decide +kernel
theorem dX9_of_179 : decode cX9_of 179 = .ok (.aload_n 0, 1) := by decide +kernel
theorem dX9_of_180 : decode cX9_of 180 = .ok (.iload_n 1, 1) := by decide +kernel
theorem dX9_of_181 : decode cX9_of 181 = .ok (.invokevirtual 292, 3) := by decide +kernel
theorem dX9_of_184 : decode cX9_of 184 = .ok (.ireturn, 1) := by decide +kernel
theorem dX9_of_185 : decode cX9_of 185 = .ok (.aload_n 0, 1) := by decide +kernel
theorem dX9_of_186 : decode cX9_of 186 = .ok (.iload_n 1, 1) := by decide +kernel
theorem dX9_of_187 : decode cX9_of 187 = .ok (.invokevirtual 289, 3) := by decide +kernel
theorem dX9_of_190 : decode cX9_of 190 = .ok (.ireturn, 1) := by decide +kernel
theorem dX9_of_191 : decode cX9_of 191 = .ok (.aload_n 0, 1) := by decide +kernel
theorem dX9_of_192 : decode cX9_of 192 = .ok (.iload_n 1, 1) := by decide +kernel
theorem dX9_of_193 : decode cX9_of 193 = .ok (.invokevirtual 305, 3) := by decide +kernel
theorem dX9_of_196 : decode cX9_of 196 = .ok (.ireturn, 1) := by decide +kernel
theorem dX9_of_197 : decode cX9_of 197 = .ok (.aload_n 0, 1) := by decide +kernel
theorem dX9_of_198 : decode cX9_of 198 = .ok (.iload_n 1, 1) := by decide +kernel
theorem dX9_of_199 : decode cX9_of 199 = .ok (.invokevirtual 308, 3) := by decide +kernel
theorem dX9_of_202 : decode cX9_of 202 = .ok (.ireturn, 1) := by decide +kernel
theorem dX9_of_203 : decode cX9_of 203 = .ok (.sipush (-10001), 3) := by decide +kernel
theorem dX9_of_206 : decode cX9_of 206 = .ok (.ireturn, 1) := by decide +kernel
theorem dX9_told_0 : decode cX9_told 0 = .ok (.aload_n 0, 1) := by decide +kernel
theorem dX9_told_1 : decode cX9_told 1 = .ok (.iload_n 1, 1) := by decide +kernel
theorem dX9_told_2 : decode cX9_told 2 = .ok (.bipush 10, 2) := by decide +kernel
theorem dX9_told_4 : decode cX9_told 4 = .ok (.bipush 21, 2) := by decide +kernel
theorem dX9_told_6 : decode cX9_told 6 = .ok (.invokevirtual 203, 3) := by decide +kernel
theorem dX9_told_9 : decode cX9_told 9 = .ok (.ifCond .eq 13, 3) := by decide +kernel
theorem dX9_told_12 : decode cX9_told 12 = .ok (.aload_n 0, 1) := by decide +kernel
theorem dX9_told_13 : decode cX9_told 13 = .ok (.getfield 7, 3) := by decide +kernel
theorem dX9_told_16 : decode cX9_told 16 = .ok (.iload_n 1, 1) := by decide +kernel
theorem dX9_told_17 : decode cX9_told 17 = .ok (.bipush 10, 2) := by decide +kernel
theorem dX9_told_19 : decode cX9_told 19 = .ok (.isub, 1) := by decide +kernel
theorem dX9_told_20 : decode cX9_told 20 = .ok (.iaload, 1) := by decide +kernel
theorem dX9_told_21 : decode cX9_told 21 = .ok (.ireturn, 1) := by decide +kernel
theorem dX9_told_22 : decode cX9_told 22 = .ok (.iload_n 1, 1) := by decide +kernel
theorem dX9_told_23 : decode cX9_told 23 = .ok (.tableswitch 54 0 3 #[29, 36, 44, 49], 29) := by decide +kernel
theorem dX9_told_52 : decode cX9_told 52 = .ok (.aload_n 0, 1) := by decide +kernel
theorem dX9_told_53 : decode cX9_told 53 = .ok (.iconst 2, 1) := by decide +kernel
theorem dX9_told_54 : decode cX9_told 54 = .ok (.iconst 0, 1) := by decide +kernel
theorem dX9_told_55 : decode cX9_told 55 = .ok (.invokevirtual 302, 3) := by decide +kernel
theorem dX9_told_58 : decode cX9_told 58 = .ok (.ireturn, 1) := by decide +kernel
theorem dX9_told_59 : decode cX9_told 59 = .ok (.aload_n 0, 1) := by decide +kernel
theorem dX9_told_60 : decode cX9_told 60 = .ok (.iconst 3, 1) := by decide +kernel
theorem dX9_told_61 : decode cX9_told 61 = .ok (.bipush 9, 2) := by decide +kernel
theorem dX9_told_63 : decode cX9_told 63 = .ok (.invokevirtual 302, 3) := by decide +kernel
theorem dX9_told_66 : decode cX9_told 66 = .ok (.ireturn, 1) := by decide +kernel
theorem dX9_told_67 : decode cX9_told 67 = .ok (.aload_n 0, 1) := by decide +kernel
theorem dX9_told_68 : decode cX9_told 68 = .ok (.getfield 20, 3) := by decide +kernel
theorem dX9_told_71 : decode cX9_told 71 = .ok (.ireturn, 1) := by decide +kernel
theorem dX9_told_72 : decode cX9_told 72 = .ok (.aload_n 0, 1) := by decide +kernel
theorem dX9_told_73 : decode cX9_told 73 = .ok (.getfield 17, 3) := by decide +kernel
theorem dX9_told_76 : decode cX9_told 76 = .ok (.ireturn, 1) := by decide +kernel
theorem dX9_told_77 : decode cX9_told 77 = .ok (.iconst (-1), 1) := by decide +kernel
theorem dX9_told_78 : decode cX9_told 78 = .ok (.ireturn, 1) := by decide +kernel
theorem dX9_nearer_0 : decode cX9_nearer 0 = .ok (.iload_n 1, 1) := by decide +kernel
theorem dX9_nearer_1 : decode cX9_nearer 1 = .ok (.iload_n 3, 1) := by decide +kernel
theorem dX9_nearer_2 : decode cX9_nearer 2 = .ok (.ifCond .eq 12, 3) := by decide +kernel
theorem dX9_nearer_5 : decode cX9_nearer 5 = .ok (.iload_n 2, 1) := by decide +kernel
theorem dX9_nearer_6 : decode cX9_nearer 6 = .ok (.iload_n 1, 1) := by decide +kernel
theorem dX9_nearer_7 : decode cX9_nearer 7 = .ok (.isub, 1) := by decide +kernel
theorem dX9_nearer_8 : decode cX9_nearer 8 = .ok (.bipush 8, 2) := by decide +kernel
theorem dX9_nearer_10 : decode cX9_nearer 10 = .ok (.idiv, 1) := by decide +kernel
theorem dX9_nearer_11 : decode cX9_nearer 11 = .ok (.goto 8, 3) := by decide +kernel
theorem dX9_nearer_14 : decode cX9_nearer 14 = .ok (.iload_n 2, 1) := by decide +kernel
theorem dX9_nearer_15 : decode cX9_nearer 15 = .ok (.iload_n 1, 1) := by decide +kernel
theorem dX9_nearer_16 : decode cX9_nearer 16 = .ok (.isub, 1) := by decide +kernel
theorem dX9_nearer_17 : decode cX9_nearer 17 = .ok (.iconst 2, 1) := by decide +kernel
theorem dX9_nearer_18 : decode cX9_nearer 18 = .ok (.idiv, 1) := by decide +kernel
theorem dX9_nearer_19 : decode cX9_nearer 19 = .ok (.iadd, 1) := by decide +kernel
theorem dX9_nearer_20 : decode cX9_nearer 20 = .ok (.ireturn, 1) := by decide +kernel
theorem dX9_goMonth_0 : decode cX9_goMonth 0 = .ok (.iconst 0, 1) := by decide +kernel
theorem dX9_goMonth_1 : decode cX9_goMonth 1 = .ok (.istore_n 2, 1) := by decide +kernel
theorem dX9_goMonth_2 : decode cX9_goMonth 2 = .ok (.iload_n 2, 1) := by decide +kernel
theorem dX9_goMonth_3 : decode cX9_goMonth 3 = .ok (.aload_n 0, 1) := by decide +kernel
theorem dX9_goMonth_4 : decode cX9_goMonth 4 = .ok (.getfield 13, 3) := by decide +kernel
theorem dX9_goMonth_7 : decode cX9_goMonth 7 = .ok (.if_icmp .ge 107, 3) := by decide +kernel
theorem dX9_goMonth_10 : decode cX9_goMonth 10 = .ok (.aload_n 0, 1) := by decide +kernel
theorem dX9_goMonth_11 : decode cX9_goMonth 11 = .ok (.getfield 29, 3) := by decide +kernel
theorem dX9_goMonth_14 : decode cX9_goMonth 14 = .ok (.iload_n 2, 1) := by decide +kernel
theorem dX9_goMonth_15 : decode cX9_goMonth 15 = .ok (.aload_n 0, 1) := by decide +kernel
theorem dX9_goMonth_16 : decode cX9_goMonth 16 = .ok (.aload_n 0, 1) := by decide +kernel
theorem dX9_goMonth_17 : decode cX9_goMonth 17 = .ok (.getfield 29, 3) := by decide +kernel
theorem dX9_goMonth_20 : decode cX9_goMonth 20 = .ok (.iload_n 2, 1) := by decide +kernel
theorem dX9_goMonth_21 : decode cX9_goMonth 21 = .ok (.iaload, 1) := by decide +kernel
theorem dX9_goMonth_22 : decode cX9_goMonth 22 = .ok (.iload_n 1, 1) := by decide +kernel
theorem dX9_goMonth_23 : decode cX9_goMonth 23 = .ok (.aload_n 0, 1) := by decide +kernel
theorem dX9_goMonth_24 : decode cX9_goMonth 24 = .ok (.getfield 35, 3) := by decide +kernel
theorem dX9_goMonth_27 : decode cX9_goMonth 27 = .ok (.iload_n 2, 1) := by decide +kernel
theorem dX9_goMonth_28 : decode cX9_goMonth 28 = .ok (.iaload, 1) := by decide +kernel
theorem dX9_goMonth_29 : decode cX9_goMonth 29 = .ok (.iconst 2, 1) := by decide +kernel
theorem dX9_goMonth_30 : decode cX9_goMonth 30 = .ok (.irem, 1) := by decide +kernel
theorem dX9_goMonth_31 : decode cX9_goMonth 31 = .ok (.iconst 1, 1) := by decide +kernel
theorem dX9_goMonth_32 : decode cX9_goMonth 32 = .ok (.if_icmp .ne 7, 3) := by decide +kernel
theorem dX9_goMonth_35 : decode cX9_goMonth 35 = .ok (.iconst 1, 1) := by decide +kernel
theorem dX9_goMonth_36 : decode cX9_goMonth 36 = .ok (.goto 4, 3) := by decide +kernel
theorem dX9_goMonth_39 : decode cX9_goMonth 39 = .ok (.iconst 0, 1) := by decide +kernel
theorem dX9_goMonth_40 : decode cX9_goMonth 40 = .ok (.invokevirtual 311, 3) := by decide +kernel
theorem dX9_goMonth_43 : decode cX9_goMonth 43 = .ok (.iastore, 1) := by decide +kernel
theorem dX9_goMonth_44 : decode cX9_goMonth 44 = .ok (.aload_n 0, 1) := by decide +kernel
theorem dX9_goMonth_45 : decode cX9_goMonth 45 = .ok (.getfield 32, 3) := by decide +kernel
theorem dX9_goMonth_48 : decode cX9_goMonth 48 = .ok (.iload_n 2, 1) := by decide +kernel
theorem dX9_goMonth_49 : decode cX9_goMonth 49 = .ok (.aload_n 0, 1) := by decide +kernel
theorem dX9_goMonth_50 : decode cX9_goMonth 50 = .ok (.aload_n 0, 1) := by decide +kernel
theorem dX9_goMonth_51 : decode cX9_goMonth 51 = .ok (.getfield 32, 3) := by decide +kernel
theorem dX9_goMonth_54 : decode cX9_goMonth 54 = .ok (.iload_n 2, 1) := by decide +kernel
theorem dX9_goMonth_55 : decode cX9_goMonth 55 = .ok (.iaload, 1) := by decide +kernel
theorem dX9_goMonth_56 : decode cX9_goMonth 56 = .ok (.iload_n 1, 1) := by decide +kernel
theorem dX9_goMonth_57 : decode cX9_goMonth 57 = .ok (.aload_n 0, 1) := by decide +kernel
theorem dX9_goMonth_58 : decode cX9_goMonth 58 = .ok (.getfield 35, 3) := by decide +kernel
theorem dX9_goMonth_61 : decode cX9_goMonth 61 = .ok (.iload_n 2, 1) := by decide +kernel
theorem dX9_goMonth_62 : decode cX9_goMonth 62 = .ok (.iaload, 1) := by decide +kernel
theorem dX9_goMonth_63 : decode cX9_goMonth 63 = .ok (.iconst 1, 1) := by decide +kernel
theorem dX9_goMonth_64 : decode cX9_goMonth 64 = .ok (.if_icmp .le 7, 3) := by decide +kernel
theorem dX9_goMonth_67 : decode cX9_goMonth 67 = .ok (.iconst 1, 1) := by decide +kernel
theorem dX9_goMonth_68 : decode cX9_goMonth 68 = .ok (.goto 4, 3) := by decide +kernel
theorem dX9_goMonth_71 : decode cX9_goMonth 71 = .ok (.iconst 0, 1) := by decide +kernel
theorem dX9_goMonth_72 : decode cX9_goMonth 72 = .ok (.invokevirtual 311, 3) := by decide +kernel
theorem dX9_goMonth_75 : decode cX9_goMonth 75 = .ok (.iastore, 1) := by decide +kernel
theorem dX9_goMonth_76 : decode cX9_goMonth 76 = .ok (.aload_n 0, 1) := by decide +kernel
theorem dX9_goMonth_77 : decode cX9_goMonth 77 = .ok (.getfield 38, 3) := by decide +kernel
theorem dX9_goMonth_80 : decode cX9_goMonth 80 = .ok (.iload_n 2, 1) := by decide +kernel
theorem dX9_goMonth_81 : decode cX9_goMonth 81 = .ok (.iaload, 1) := by decide +kernel
theorem dX9_goMonth_82 : decode cX9_goMonth 82 = .ok (.aload_n 0, 1) := by decide +kernel
theorem dX9_goMonth_83 : decode cX9_goMonth 83 = .ok (.iconst 1, 1) := by decide +kernel
theorem dX9_goMonth_84 : decode cX9_goMonth 84 = .ok (.iload_n 2, 1) := by decide +kernel
theorem dX9_goMonth_85 : decode cX9_goMonth 85 = .ok (.invokevirtual 283, 3) := by decide +kernel
theorem dX9_goMonth_88 : decode cX9_goMonth 88 = .ok (.iadd, 1) := by decide +kernel
theorem dX9_goMonth_89 : decode cX9_goMonth 89 = .ok (.istore_n 3, 1) := by decide +kernel
theorem dX9_goMonth_90 : decode cX9_goMonth 90 = .ok (.aload_n 0, 1) := by decide +kernel
theorem dX9_goMonth_91 : decode cX9_goMonth 91 = .ok (.getfield 38, 3) := by decide +kernel
theorem dX9_goMonth_94 : decode cX9_goMonth 94 = .ok (.iload_n 2, 1) := by decide +kernel
theorem dX9_goMonth_95 : decode cX9_goMonth 95 = .ok (.iload_n 3, 1) := by decide +kernel
theorem dX9_goMonth_96 : decode cX9_goMonth 96 = .ok (.bipush 20, 2) := by decide +kernel
theorem dX9_goMonth_98 : decode cX9_goMonth 98 = .ok (.if_icmp .le 8, 3) := by decide +kernel
theorem dX9_goMonth_101 : decode cX9_goMonth 101 = .ok (.bipush 20, 2) := by decide +kernel
theorem dX9_goMonth_103 : decode cX9_goMonth 103 = .ok (.goto 4, 3) := by decide +kernel
theorem dX9_goMonth_106 : decode cX9_goMonth 106 = .ok (.iload_n 3, 1) := by decide +kernel
theorem dX9_goMonth_107 : decode cX9_goMonth 107 = .ok (.iastore, 1) := by decide +kernel
theorem dX9_goMonth_108 : decode cX9_goMonth 108 = .ok (.iinc 2 1, 3) := by decide +kernel
theorem dX9_goMonth_111 : decode cX9_goMonth 111 = .ok (.goto (-109), 3) := by decide +kernel
theorem dX9_goMonth_114 : decode cX9_goMonth 114 = .ok (.aload_n 0, 1) := by decide +kernel
theorem dX9_goMonth_115 : decode cX9_goMonth 115 = .ok (.dup, 1) := by decide +kernel
theorem dX9_goMonth_116 : decode cX9_goMonth 116 = .ok (.getfield 20, 3) := by decide +kernel
theorem dX9_goMonth_119 : decode cX9_goMonth 119 = .ok (.iconst 1, 1) := by decide +kernel
theorem dX9_goMonth_120 : decode cX9_goMonth 120 = .ok (.iadd, 1) := by decide +kernel
theorem dX9_goMonth_121 : decode cX9_goMonth 121 = .ok (.putfield 20, 3) := by decide +kernel
theorem dX9_goMonth_124 : decode cX9_goMonth 124 = .ok (.aload_n 0, 1) := by decide +kernel
theorem dX9_goMonth_125 : decode cX9_goMonth 125 = .ok (.getfield 20, 3) := by decide +kernel
theorem dX9_goMonth_128 : decode cX9_goMonth 128 = .ok (.bipush 12, 2) := by decide +kernel
theorem dX9_goMonth_130 : decode cX9_goMonth 130 = .ok (.irem, 1) := by decide +kernel
theorem dX9_goMonth_131 : decode cX9_goMonth 131 = .ok (.ifCond .le 4, 3) := by decide +kernel
theorem dX9_goMonth_134 : decode cX9_goMonth 134 = .ok (.return_, 1) := by decide +kernel
theorem dX9_goMonth_135 : decode cX9_goMonth 135 = .ok (.aload_n 0, 1) := by decide +kernel
theorem dX9_goMonth_136 : decode cX9_goMonth 136 = .ok (.getfield 17, 3) := by decide +kernel
theorem dX9_goMonth_139 : decode cX9_goMonth 139 = .ok (.aload_n 0, 1) := by decide +kernel
theorem dX9_goMonth_140 : decode cX9_goMonth 140 = .ok (.iconst 2, 1) := by decide +kernel
theorem dX9_goMonth_141 : decode cX9_goMonth 141 = .ok (.iconst 0, 1) := by decide +kernel
theorem dX9_goMonth_142 : decode cX9_goMonth 142 = .ok (.invokevirtual 302, 3) := by decide +kernel
theorem dX9_goMonth_145 : decode cX9_goMonth 145 = .ok (.iadd, 1) := by decide +kernel
theorem dX9_goMonth_146 : decode cX9_goMonth 146 = .ok (.istore_n 2, 1) := by decide +kernel
theorem dX9_goMonth_147 : decode cX9_goMonth 147 = .ok (.aload_n 0, 1) := by decide +kernel
theorem dX9_goMonth_148 : decode cX9_goMonth 148 = .ok (.iload_n 2, 1) := by decide +kernel
theorem dX9_goMonth_149 : decode cX9_goMonth 149 = .ok (.bipush 20, 2) := by decide +kernel
theorem dX9_goMonth_151 : decode cX9_goMonth 151 = .ok (.if_icmp .le 8, 3) := by decide +kernel
theorem dX9_goMonth_154 : decode cX9_goMonth 154 = .ok (.bipush 20, 2) := by decide +kernel
theorem dX9_goMonth_156 : decode cX9_goMonth 156 = .ok (.goto 4, 3) := by decide +kernel
theorem dX9_goMonth_159 : decode cX9_goMonth 159 = .ok (.iload_n 2, 1) := by decide +kernel
theorem dX9_goMonth_160 : decode cX9_goMonth 160 = .ok (.putfield 17, 3) := by decide +kernel
theorem dX9_goMonth_163 : decode cX9_goMonth 163 = .ok (.return_, 1) := by decide +kernel
theorem dX9_goOn_0 : decode cX9_goOn 0 = .ok (.aload_n 0, 1) := by decide +kernel
theorem dX9_goOn_1 : decode cX9_goOn 1 = .ok (.aload_n 0, 1) := by decide +kernel
theorem dX9_goOn_2 : decode cX9_goOn 2 = .ok (.getfield 7, 3) := by decide +kernel
theorem dX9_goOn_5 : decode cX9_goOn 5 = .ok (.aload_n 0, 1) := by decide +kernel
theorem dX9_goOn_6 : decode cX9_goOn 6 = .ok (.getfield 20, 3) := by decide +kernel
theorem dX9_goOn_9 : decode cX9_goOn 9 = .ok (.bipush 12, 2) := by decide +kernel
theorem dX9_goOn_11 : decode cX9_goOn 11 = .ok (.irem, 1) := by decide +kernel
theorem dX9_goOn_12 : decode cX9_goOn 12 = .ok (.iaload, 1) := by decide +kernel
theorem dX9_goOn_13 : decode cX9_goOn 13 = .ok (.invokevirtual 315, 3) := by decide +kernel
theorem dX9_goOn_16 : decode cX9_goOn 16 = .ok (.return_, 1) := by decide +kernel
theorem dX9_month_0 : decode cX9_month 0 = .ok (.aload_n 0, 1) := by decide +kernel
theorem dX9_month_1 : decode cX9_month 1 = .ok (.getfield 20, 3) := by decide +kernel
theorem dX9_month_4 : decode cX9_month 4 = .ok (.sipush 9999, 3) := by decide +kernel
theorem dX9_month_7 : decode cX9_month 7 = .ok (.if_icmp .ne 6, 3) := by decide +kernel
theorem dX9_month_10 : decode cX9_month 10 = .ok (.bipush (-3), 2) := by decide +kernel
theorem dX9_month_12 : decode cX9_month 12 = .ok (.ireturn, 1) := by decide +kernel
theorem dX9_month_13 : decode cX9_month 13 = .ok (.aload_n 0, 1) := by decide +kernel
theorem dX9_month_14 : decode cX9_month 14 = .ok (.invokevirtual 318, 3) := by decide +kernel
theorem dX9_month_17 : decode cX9_month 17 = .ok (.aload_n 0, 1) := by decide +kernel
theorem dX9_month_18 : decode cX9_month 18 = .ok (.getfield 20, 3) := by decide +kernel
theorem dX9_month_21 : decode cX9_month 21 = .ok (.ireturn, 1) := by decide +kernel
theorem dX9_isWhere_0 : decode cX9_isWhere 0 = .ok (.iload_n 1, 1) := by decide +kernel
theorem dX9_isWhere_1 : decode cX9_isWhere 1 = .ok (.tableswitch 49 0 4 #[35, 49, 49, 41, 35], 35) := by decide +kernel
theorem dX9_isWhere_36 : decode cX9_isWhere 36 = .ok (.aload_n 0, 1) := by decide +kernel
theorem dX9_isWhere_37 : decode cX9_isWhere 37 = .ok (.iload_n 2, 1) := by decide +kernel
theorem dX9_isWhere_38 : decode cX9_isWhere 38 = .ok (.invokevirtual 321, 3) := by decide +kernel
theorem dX9_isWhere_41 : decode cX9_isWhere 41 = .ok (.ireturn, 1) := by decide +kernel
theorem dX9_isWhere_42 : decode cX9_isWhere 42 = .ok (.aload_n 0, 1) := by decide +kernel
theorem dX9_isWhere_43 : decode cX9_isWhere 43 = .ok (.iload_n 2, 1) := by decide +kernel
theorem dX9_isWhere_44 : decode cX9_isWhere 44 = .ok (.iconst 0, 1) := by decide +kernel
theorem dX9_isWhere_45 : decode cX9_isWhere 45 = .ok (.iconst 1, 1) := by decide +kernel
theorem dX9_isWhere_46 : decode cX9_isWhere 46 = .ok (.invokevirtual 203, 3) := by decide +kernel
theorem dX9_isWhere_49 : decode cX9_isWhere 49 = .ok (.ireturn, 1) := by decide +kernel
theorem dX9_isWhere_50 : decode cX9_isWhere 50 = .ok (.iconst 1, 1) := by decide +kernel
theorem dX9_isWhere_51 : decode cX9_isWhere 51 = .ok (.ireturn, 1) := by decide +kernel
theorem dX9_planes_0 : decode cX9_planes 0 = .ok (.aload_n 0, 1) := by decide +kernel
theorem dX9_planes_1 : decode cX9_planes 1 = .ok (.getfield 44, 3) := by decide +kernel
theorem dX9_planes_4 : decode cX9_planes 4 = .ok (.bipush 6, 2) := by decide +kernel
theorem dX9_planes_6 : decode cX9_planes 6 = .ok (.iload_n 1, 1) := by decide +kernel
theorem dX9_planes_7 : decode cX9_planes 7 = .ok (.imul, 1) := by decide +kernel
theorem dX9_planes_8 : decode cX9_planes 8 = .ok (.iload_n 2, 1) := by decide +kernel
theorem dX9_planes_9 : decode cX9_planes 9 = .ok (.iadd, 1) := by decide +kernel
theorem dX9_planes_10 : decode cX9_planes 10 = .ok (.iaload, 1) := by decide +kernel
theorem dX9_planes_11 : decode cX9_planes 11 = .ok (.istore 4, 2) := by decide +kernel
theorem dX9_planes_13 : decode cX9_planes 13 = .ok (.iload 4, 2) := by decide +kernel
theorem dX9_planes_15 : decode cX9_planes 15 = .ok (.iload_n 3, 1) := by decide +kernel
theorem dX9_planes_16 : decode cX9_planes 16 = .ok (.iadd, 1) := by decide +kernel
theorem dX9_planes_17 : decode cX9_planes 17 = .ok (.istore 5, 2) := by decide +kernel
theorem dX9_planes_19 : decode cX9_planes 19 = .ok (.aload_n 0, 1) := by decide +kernel
theorem dX9_planes_20 : decode cX9_planes 20 = .ok (.getfield 44, 3) := by decide +kernel
theorem dX9_planes_23 : decode cX9_planes 23 = .ok (.bipush 6, 2) := by decide +kernel
theorem dX9_planes_25 : decode cX9_planes 25 = .ok (.iload_n 1, 1) := by decide +kernel
theorem dX9_planes_26 : decode cX9_planes 26 = .ok (.imul, 1) := by decide +kernel
theorem dX9_planes_27 : decode cX9_planes 27 = .ok (.iload_n 2, 1) := by decide +kernel
theorem dX9_planes_28 : decode cX9_planes 28 = .ok (.iadd, 1) := by decide +kernel
theorem dX9_planes_29 : decode cX9_planes 29 = .ok (.iload 5, 2) := by decide +kernel
theorem dX9_planes_31 : decode cX9_planes 31 = .ok (.bipush 99, 2) := by decide +kernel
theorem dX9_planes_33 : decode cX9_planes 33 = .ok (.if_icmp .le 8, 3) := by decide +kernel
theorem dX9_planes_36 : decode cX9_planes 36 = .ok (.bipush 99, 2) := by decide +kernel
theorem dX9_planes_38 : decode cX9_planes 38 = .ok (.goto 14, 3) := by decide +kernel
theorem dX9_planes_41 : decode cX9_planes 41 = .ok (.iload 5, 2) := by decide +kernel
theorem dX9_planes_43 : decode cX9_planes 43 = .ok (.ifCond .ge 7, 3) := by decide +kernel
theorem dX9_planes_46 : decode cX9_planes 46 = .ok (.iconst 0, 1) := by decide +kernel
theorem dX9_planes_47 : decode cX9_planes 47 = .ok (.goto 5, 3) := by decide +kernel
theorem dX9_planes_50 : decode cX9_planes 50 = .ok (.iload 5, 2) := by decide +kernel
theorem dX9_planes_52 : decode cX9_planes 52 = .ok (.iastore, 1) := by decide +kernel
theorem dX9_planes_53 : decode cX9_planes 53 = .ok (.iload 4, 2) := by decide +kernel
theorem dX9_planes_55 : decode cX9_planes 55 = .ok (.ireturn, 1) := by decide +kernel
theorem dX9_packed_0 : decode cX9_packed 0 = .ok (.aload_n 0, 1) := by decide +kernel
theorem dX9_packed_1 : decode cX9_packed 1 = .ok (.getfield 41, 3) := by decide +kernel
theorem dX9_packed_4 : decode cX9_packed 4 = .ok (.iload_n 1, 1) := by decide +kernel
theorem dX9_packed_5 : decode cX9_packed 5 = .ok (.iaload, 1) := by decide +kernel
theorem dX9_packed_6 : decode cX9_packed 6 = .ok (.istore_n 3, 1) := by decide +kernel
theorem dX9_packed_7 : decode cX9_packed 7 = .ok (.aload_n 0, 1) := by decide +kernel
theorem dX9_packed_8 : decode cX9_packed 8 = .ok (.getfield 41, 3) := by decide +kernel
theorem dX9_packed_11 : decode cX9_packed 11 = .ok (.iload_n 1, 1) := by decide +kernel
theorem dX9_packed_12 : decode cX9_packed 12 = .ok (.iload_n 3, 1) := by decide +kernel
theorem dX9_packed_13 : decode cX9_packed 13 = .ok (.iload_n 2, 1) := by decide +kernel
theorem dX9_packed_14 : decode cX9_packed 14 = .ok (.iadd, 1) := by decide +kernel
theorem dX9_packed_15 : decode cX9_packed 15 = .ok (.bipush 9, 2) := by decide +kernel
theorem dX9_packed_17 : decode cX9_packed 17 = .ok (.if_icmp .le 8, 3) := by decide +kernel
theorem dX9_packed_20 : decode cX9_packed 20 = .ok (.bipush 9, 2) := by decide +kernel
theorem dX9_packed_22 : decode cX9_packed 22 = .ok (.goto 6, 3) := by decide +kernel
theorem dX9_packed_25 : decode cX9_packed 25 = .ok (.iload_n 3, 1) := by decide +kernel
theorem dX9_packed_26 : decode cX9_packed 26 = .ok (.iload_n 2, 1) := by decide +kernel
theorem dX9_packed_27 : decode cX9_packed 27 = .ok (.iadd, 1) := by decide +kernel
theorem dX9_packed_28 : decode cX9_packed 28 = .ok (.iastore, 1) := by decide +kernel
theorem dX9_packed_29 : decode cX9_packed 29 = .ok (.iload_n 3, 1) := by decide +kernel
theorem dX9_packed_30 : decode cX9_packed 30 = .ok (.ireturn, 1) := by decide +kernel
theorem dX9_paints_0 : decode cX9_paints 0 = .ok (.aload_n 0, 1) := by decide +kernel
theorem dX9_paints_1 : decode cX9_paints 1 = .ok (.getfield 35, 3) := by decide +kernel
theorem dX9_paints_4 : decode cX9_paints 4 = .ok (.iload_n 1, 1) := by decide +kernel
theorem dX9_paints_5 : decode cX9_paints 5 = .ok (.iaload, 1) := by decide +kernel
theorem dX9_paints_6 : decode cX9_paints 6 = .ok (.iload_n 2, 1) := by decide +kernel
theorem dX9_paints_7 : decode cX9_paints 7 = .ok (.ishr, 1) := by decide +kernel
theorem dX9_paints_8 : decode cX9_paints 8 = .ok (.iconst 1, 1) := by decide +kernel
theorem dX9_paints_9 : decode cX9_paints 9 = .ok (.iand, 1) := by decide +kernel
theorem dX9_paints_10 : decode cX9_paints 10 = .ok (.istore_n 3, 1) := by decide +kernel
theorem dX9_paints_11 : decode cX9_paints 11 = .ok (.aload_n 0, 1) := by decide +kernel
theorem dX9_paints_12 : decode cX9_paints 12 = .ok (.getfield 35, 3) := by decide +kernel
theorem dX9_paints_15 : decode cX9_paints 15 = .ok (.iload_n 1, 1) := by decide +kernel
theorem dX9_paints_16 : decode cX9_paints 16 = .ok (.dup2, 1) := by decide +kernel
theorem dX9_paints_17 : decode cX9_paints 17 = .ok (.iaload, 1) := by decide +kernel
theorem dX9_paints_18 : decode cX9_paints 18 = .ok (.iconst 1, 1) := by decide +kernel
theorem dX9_paints_19 : decode cX9_paints 19 = .ok (.iload_n 2, 1) := by decide +kernel
theorem dX9_paints_20 : decode cX9_paints 20 = .ok (.ishl, 1) := by decide +kernel
theorem dX9_paints_21 : decode cX9_paints 21 = .ok (.ior, 1) := by decide +kernel
theorem dX9_paints_22 : decode cX9_paints 22 = .ok (.iastore, 1) := by decide +kernel
theorem dX9_paints_23 : decode cX9_paints 23 = .ok (.iload_n 3, 1) := by decide +kernel
theorem dX9_paints_24 : decode cX9_paints 24 = .ok (.ireturn, 1) := by decide +kernel
theorem dX9_mend_0 : decode cX9_mend 0 = .ok (.aload_n 0, 1) := by decide +kernel
theorem dX9_mend_1 : decode cX9_mend 1 = .ok (.iload_n 1, 1) := by decide +kernel
theorem dX9_mend_2 : decode cX9_mend 2 = .ok (.invokevirtual 207, 3) := by decide +kernel
theorem dX9_mend_5 : decode cX9_mend 5 = .ok (.ifCond .eq 22, 3) := by decide +kernel
theorem dX9_mend_8 : decode cX9_mend 8 = .ok (.aload_n 0, 1) := by decide +kernel
theorem dX9_mend_9 : decode cX9_mend 9 = .ok (.iload_n 2, 1) := by decide +kernel
theorem dX9_mend_10 : decode cX9_mend 10 = .ok (.iconst 0, 1) := by decide +kernel
theorem dX9_mend_11 : decode cX9_mend 11 = .ok (.iconst 4, 1) := by decide +kernel
theorem dX9_mend_12 : decode cX9_mend 12 = .ok (.invokevirtual 203, 3) := by decide +kernel
theorem dX9_mend_15 : decode cX9_mend 15 = .ok (.ifCond .eq 12, 3) := by decide +kernel
theorem dX9_mend_18 : decode cX9_mend 18 = .ok (.aload_n 0, 1) := by decide +kernel
theorem dX9_mend_19 : decode cX9_mend 19 = .ok (.iload_n 2, 1) := by decide +kernel
theorem dX9_mend_20 : decode cX9_mend 20 = .ok (.iload_n 3, 1) := by decide +kernel
theorem dX9_mend_21 : decode cX9_mend 21 = .ok (.invokevirtual 324, 3) := by decide +kernel
theorem dX9_mend_24 : decode cX9_mend 24 = .ok (.ifCond .ne 5, 3) := by decide +kernel
theorem dX9_mend_27 : decode cX9_mend 27 = .ok (.iconst (-1), 1) := by decide +kernel
theorem dX9_mend_28 : decode cX9_mend 28 = .ok (.ireturn, 1) := by decide +kernel
theorem dX9_mend_29 : decode cX9_mend 29 = .ok (.iload_n 2, 1) := by decide +kernel
theorem dX9_mend_30 : decode cX9_mend 30 = .ok (.iconst 2, 1) := by decide +kernel
theorem dX9_mend_31 : decode cX9_mend 31 = .ok (.if_icmp .eq 23, 3) := by decide +kernel
theorem dX9_mend_34 : decode cX9_mend 34 = .ok (.iload_n 2, 1) := by decide +kernel
theorem dX9_mend_35 : decode cX9_mend 35 = .ok (.iconst 3, 1) := by decide +kernel
theorem dX9_mend_36 : decode cX9_mend 36 = .ok (.if_icmp .eq 18, 3) := by decide +kernel
theorem dX9_mend_39 : decode cX9_mend 39 = .ok (.aload_n 0, 1) := by decide +kernel
theorem dX9_mend_40 : decode cX9_mend 40 = .ok (.iload 4, 2) := by decide +kernel
theorem dX9_mend_42 : decode cX9_mend 42 = .ok (.iconst 0, 1) := by decide +kernel
theorem dX9_mend_43 : decode cX9_mend 43 = .ok (.bipush 9, 2) := by decide +kernel
theorem dX9_mend_45 : decode cX9_mend 45 = .ok (.invokevirtual 203, 3) := by decide +kernel
theorem dX9_mend_48 : decode cX9_mend 48 = .ok (.ifCond .ne 6, 3) := by decide +kernel
theorem dX9_mend_51 : decode cX9_mend 51 = .ok (.bipush (-2), 2) := by decide +kernel
theorem dX9_mend_53 : decode cX9_mend 53 = .ok (.ireturn, 1) := by decide +kernel
theorem dX9_mend_54 : decode cX9_mend 54 = .ok (.iload_n 2, 1) := by decide +kernel
theorem dX9_mend_55 : decode cX9_mend 55 = .ok (.tableswitch 71 0 3 #[29, 38, 46, 64], 29) := by decide +kernel
theorem dX9_mend_84 : decode cX9_mend 84 = .ok (.aload_n 0, 1) := by decide +kernel
theorem dX9_mend_85 : decode cX9_mend 85 = .ok (.iload_n 1, 1) := by decide +kernel
theorem dX9_mend_86 : decode cX9_mend 86 = .ok (.iload_n 3, 1) := by decide +kernel
theorem dX9_mend_87 : decode cX9_mend 87 = .ok (.iload 4, 2) := by decide +kernel
theorem dX9_mend_89 : decode cX9_mend 89 = .ok (.invokevirtual 327, 3) := by decide +kernel
theorem dX9_mend_92 : decode cX9_mend 92 = .ok (.ireturn, 1) := by decide +kernel
theorem dX9_mend_93 : decode cX9_mend 93 = .ok (.aload_n 0, 1) := by decide +kernel
theorem dX9_mend_94 : decode cX9_mend 94 = .ok (.iload_n 1, 1) := by decide +kernel
theorem dX9_mend_95 : decode cX9_mend 95 = .ok (.iload 4, 2) := by decide +kernel
theorem dX9_mend_97 : decode cX9_mend 97 = .ok (.invokevirtual 331, 3) := by decide +kernel
theorem dX9_mend_100 : decode cX9_mend 100 = .ok (.ireturn, 1) := by decide +kernel
theorem dX9_mend_101 : decode cX9_mend 101 = .ok (.aload_n 0, 1) := by decide +kernel
theorem dX9_mend_102 : decode cX9_mend 102 = .ok (.getfield 38, 3) := by decide +kernel
theorem dX9_mend_105 : decode cX9_mend 105 = .ok (.iload_n 1, 1) := by decide +kernel
theorem dX9_mend_106 : decode cX9_mend 106 = .ok (.iaload, 1) := by decide +kernel
theorem dX9_mend_107 : decode cX9_mend 107 = .ok (.istore 5, 2) := by decide +kernel
theorem dX9_mend_109 : decode cX9_mend 109 = .ok (.aload_n 0, 1) := by decide +kernel
theorem dX9_mend_110 : decode cX9_mend 110 = .ok (.getfield 38, 3) := by decide +kernel
theorem dX9_mend_113 : decode cX9_mend 113 = .ok (.iload_n 1, 1) := by decide +kernel
theorem dX9_mend_114 : decode cX9_mend 114 = .ok (.iconst 0, 1) := by decide +kernel
theorem dX9_mend_115 : decode cX9_mend 115 = .ok (.iastore, 1) := by decide +kernel
theorem dX9_mend_116 : decode cX9_mend 116 = .ok (.iload 5, 2) := by decide +kernel
theorem dX9_mend_118 : decode cX9_mend 118 = .ok (.ireturn, 1) := by decide +kernel
theorem dX9_mend_119 : decode cX9_mend 119 = .ok (.aload_n 0, 1) := by decide +kernel
theorem dX9_mend_120 : decode cX9_mend 120 = .ok (.iload_n 1, 1) := by decide +kernel
theorem dX9_mend_121 : decode cX9_mend 121 = .ok (.iload_n 3, 1) := by decide +kernel
theorem dX9_mend_122 : decode cX9_mend 122 = .ok (.invokevirtual 334, 3) := by decide +kernel
theorem dX9_mend_125 : decode cX9_mend 125 = .ok (.ireturn, 1) := by decide +kernel
theorem dX9_mend_126 : decode cX9_mend 126 = .ok (.aload_n 0, 1) := by decide +kernel
theorem dX9_mend_127 : decode cX9_mend 127 = .ok (.iload_n 1, 1) := by decide +kernel
theorem dX9_mend_128 : decode cX9_mend 128 = .ok (.iload_n 3, 1) := by decide +kernel
theorem dX9_mend_129 : decode cX9_mend 129 = .ok (.iload 4, 2) := by decide +kernel
theorem dX9_mend_131 : decode cX9_mend 131 = .ok (.ineg, 1) := by decide +kernel
theorem dX9_mend_132 : decode cX9_mend 132 = .ok (.invokevirtual 327, 3) := by decide +kernel
theorem dX9_mend_135 : decode cX9_mend 135 = .ok (.ireturn, 1) := by decide +kernel
theorem dX9_keep_0 : decode cX9_keep 0 = .ok (.iconst 0, 1) := by decide +kernel
theorem dX9_keep_1 : decode cX9_keep 1 = .ok (.istore_n 1, 1) := by decide +kernel
theorem dX9_keep_2 : decode cX9_keep 2 = .ok (.iload_n 1, 1) := by decide +kernel
theorem dX9_keep_3 : decode cX9_keep 3 = .ok (.iconst 4, 1) := by decide +kernel
theorem dX9_keep_4 : decode cX9_keep 4 = .ok (.if_icmp .ge 45, 3) := by decide +kernel
theorem dX9_keep_7 : decode cX9_keep 7 = .ok (.aload_n 0, 1) := by decide +kernel
theorem dX9_keep_8 : decode cX9_keep 8 = .ok (.getfield 102, 3) := by decide +kernel
theorem dX9_keep_11 : decode cX9_keep 11 = .ok (.iload_n 1, 1) := by decide +kernel
theorem dX9_keep_12 : decode cX9_keep 12 = .ok (.aload_n 0, 1) := by decide +kernel
theorem dX9_keep_13 : decode cX9_keep 13 = .ok (.getfield 29, 3) := by decide +kernel
theorem dX9_keep_16 : decode cX9_keep 16 = .ok (.iload_n 1, 1) := by decide +kernel
theorem dX9_keep_17 : decode cX9_keep 17 = .ok (.iaload, 1) := by decide +kernel
theorem dX9_keep_18 : decode cX9_keep 18 = .ok (.iastore, 1) := by decide +kernel
theorem dX9_keep_19 : decode cX9_keep 19 = .ok (.aload_n 0, 1) := by decide +kernel
theorem dX9_keep_20 : decode cX9_keep 20 = .ok (.getfield 105, 3) := by decide +kernel
theorem dX9_keep_23 : decode cX9_keep 23 = .ok (.iload_n 1, 1) := by decide +kernel
theorem dX9_keep_24 : decode cX9_keep 24 = .ok (.aload_n 0, 1) := by decide +kernel
theorem dX9_keep_25 : decode cX9_keep 25 = .ok (.getfield 32, 3) := by decide +kernel
theorem dX9_keep_28 : decode cX9_keep 28 = .ok (.iload_n 1, 1) := by decide +kernel
theorem dX9_keep_29 : decode cX9_keep 29 = .ok (.iaload, 1) := by decide +kernel
theorem dX9_keep_30 : decode cX9_keep 30 = .ok (.iastore, 1) := by decide +kernel
theorem dX9_keep_31 : decode cX9_keep 31 = .ok (.aload_n 0, 1) := by decide +kernel
theorem dX9_keep_32 : decode cX9_keep 32 = .ok (.getfield 108, 3) := by decide +kernel
theorem dX9_keep_35 : decode cX9_keep 35 = .ok (.iload_n 1, 1) := by decide +kernel
theorem dX9_keep_36 : decode cX9_keep 36 = .ok (.aload_n 0, 1) := by decide +kernel
theorem dX9_keep_37 : decode cX9_keep 37 = .ok (.getfield 38, 3) := by decide +kernel
theorem dX9_keep_40 : decode cX9_keep 40 = .ok (.iload_n 1, 1) := by decide +kernel
theorem dX9_keep_41 : decode cX9_keep 41 = .ok (.iaload, 1) := by decide +kernel
theorem dX9_keep_42 : decode cX9_keep 42 = .ok (.iastore, 1) := by decide +kernel
theorem dX9_keep_43 : decode cX9_keep 43 = .ok (.iinc 1 1, 3) := by decide +kernel
theorem dX9_keep_46 : decode cX9_keep 46 = .ok (.goto (-44), 3) := by decide +kernel
theorem dX9_keep_49 : decode cX9_keep 49 = .ok (.aload_n 0, 1) := by decide +kernel
theorem dX9_keep_50 : decode cX9_keep 50 = .ok (.aload_n 0, 1) := by decide +kernel
theorem dX9_keep_51 : decode cX9_keep 51 = .ok (.getfield 17, 3) := by decide +kernel
theorem dX9_keep_54 : decode cX9_keep 54 = .ok (.putfield 111, 3) := by decide +kernel
theorem dX9_keep_57 : decode cX9_keep 57 = .ok (.aload_n 0, 1) := by decide +kernel
theorem dX9_keep_58 : decode cX9_keep 58 = .ok (.aload_n 0, 1) := by decide +kernel
theorem dX9_keep_59 : decode cX9_keep 59 = .ok (.getfield 20, 3) := by decide +kernel
theorem dX9_keep_62 : decode cX9_keep 62 = .ok (.putfield 114, 3) := by decide +kernel
theorem dX9_keep_65 : decode cX9_keep 65 = .ok (.return_, 1) := by decide +kernel
theorem dX9_putBack_0 : decode cX9_putBack 0 = .ok (.iconst 0, 1) := by decide +kernel
theorem dX9_putBack_1 : decode cX9_putBack 1 = .ok (.istore_n 1, 1) := by decide +kernel
theorem dX9_putBack_2 : decode cX9_putBack 2 = .ok (.iload_n 1, 1) := by decide +kernel
theorem dX9_putBack_3 : decode cX9_putBack 3 = .ok (.iconst 4, 1) := by decide +kernel
theorem dX9_putBack_4 : decode cX9_putBack 4 = .ok (.if_icmp .ge 45, 3) := by decide +kernel
theorem dX9_putBack_7 : decode cX9_putBack 7 = .ok (.aload_n 0, 1) := by decide +kernel
theorem dX9_putBack_8 : decode cX9_putBack 8 = .ok (.getfield 29, 3) := by decide +kernel
theorem dX9_putBack_11 : decode cX9_putBack 11 = .ok (.iload_n 1, 1) := by decide +kernel
theorem dX9_putBack_12 : decode cX9_putBack 12 = .ok (.aload_n 0, 1) := by decide +kernel
theorem dX9_putBack_13 : decode cX9_putBack 13 = .ok (.getfield 102, 3) := by decide +kernel
theorem dX9_putBack_16 : decode cX9_putBack 16 = .ok (.iload_n 1, 1) := by decide +kernel
theorem dX9_putBack_17 : decode cX9_putBack 17 = .ok (.iaload, 1) := by decide +kernel
theorem dX9_putBack_18 : decode cX9_putBack 18 = .ok (.iastore, 1) := by decide +kernel
theorem dX9_putBack_19 : decode cX9_putBack 19 = .ok (.aload_n 0, 1) := by decide +kernel
theorem dX9_putBack_20 : decode cX9_putBack 20 = .ok (.getfield 32, 3) := by decide +kernel
theorem dX9_putBack_23 : decode cX9_putBack 23 = .ok (.iload_n 1, 1) := by decide +kernel
theorem dX9_putBack_24 : decode cX9_putBack 24 = .ok (.aload_n 0, 1) := by decide +kernel
theorem dX9_putBack_25 : decode cX9_putBack 25 = .ok (.getfield 105, 3) := by decide +kernel
theorem dX9_putBack_28 : decode cX9_putBack 28 = .ok (.iload_n 1, 1) := by decide +kernel
theorem dX9_putBack_29 : decode cX9_putBack 29 = .ok (.iaload, 1) := by decide +kernel
theorem dX9_putBack_30 : decode cX9_putBack 30 = .ok (.iastore, 1) := by decide +kernel
theorem dX9_putBack_31 : decode cX9_putBack 31 = .ok (.aload_n 0, 1) := by decide +kernel
theorem dX9_putBack_32 : decode cX9_putBack 32 = .ok (.getfield 38, 3) := by decide +kernel
theorem dX9_putBack_35 : decode cX9_putBack 35 = .ok (.iload_n 1, 1) := by decide +kernel
theorem dX9_putBack_36 : decode cX9_putBack 36 = .ok (.aload_n 0, 1) := by decide +kernel
theorem dX9_putBack_37 : decode cX9_putBack 37 = .ok (.getfield 108, 3) := by decide +kernel
theorem dX9_putBack_40 : decode cX9_putBack 40 = .ok (.iload_n 1, 1) := by decide +kernel
theorem dX9_putBack_41 : decode cX9_putBack 41 = .ok (.iaload, 1) := by decide +kernel
theorem dX9_putBack_42 : decode cX9_putBack 42 = .ok (.iastore, 1) := by decide +kernel
theorem dX9_putBack_43 : decode cX9_putBack 43 = .ok (.iinc 1 1, 3) := by decide +kernel
theorem dX9_putBack_46 : decode cX9_putBack 46 = .ok (.goto (-44), 3) := by decide +kernel
theorem dX9_putBack_49 : decode cX9_putBack 49 = .ok (.aload_n 0, 1) := by decide +kernel
theorem dX9_putBack_50 : decode cX9_putBack 50 = .ok (.aload_n 0, 1) := by decide +kernel
theorem dX9_putBack_51 : decode cX9_putBack 51 = .ok (.getfield 111, 3) := by decide +kernel
theorem dX9_putBack_54 : decode cX9_putBack 54 = .ok (.putfield 17, 3) := by decide +kernel
theorem dX9_putBack_57 : decode cX9_putBack 57 = .ok (.aload_n 0, 1) := by decide +kernel
theorem dX9_putBack_58 : decode cX9_putBack 58 = .ok (.aload_n 0, 1) := by decide +kernel
theorem dX9_putBack_59 : decode cX9_putBack 59 = .ok (.getfield 114, 3) := by decide +kernel
theorem dX9_putBack_62 : decode cX9_putBack 62 = .ok (.putfield 20, 3) := by decide +kernel
theorem dX9_putBack_65 : decode cX9_putBack 65 = .ok (.return_, 1) := by decide +kernel
theorem dX9_run_0 : decode cX9_run 0 = .ok (.aload_n 0, 1) := by decide +kernel
theorem dX9_run_1 : decode cX9_run 1 = .ok (.iload_n 1, 1) := by decide +kernel
theorem dX9_run_2 : decode cX9_run 2 = .ok (.invokevirtual 207, 3) := by decide +kernel
theorem dX9_run_5 : decode cX9_run 5 = .ok (.ifCond .eq 14, 3) := by decide +kernel
theorem dX9_run_8 : decode cX9_run 8 = .ok (.aload_n 0, 1) := by decide +kernel
theorem dX9_run_9 : decode cX9_run 9 = .ok (.iload_n 3, 1) := by decide +kernel
theorem dX9_run_10 : decode cX9_run 10 = .ok (.iconst 0, 1) := by decide +kernel
theorem dX9_run_11 : decode cX9_run 11 = .ok (.bipush 8, 2) := by decide +kernel
theorem dX9_run_13 : decode cX9_run 13 = .ok (.invokevirtual 203, 3) := by decide +kernel
theorem dX9_run_16 : decode cX9_run 16 = .ok (.ifCond .ne 7, 3) := by decide +kernel
theorem dX9_run_19 : decode cX9_run 19 = .ok (.sipush (-10001), 3) := by decide +kernel
theorem dX9_run_22 : decode cX9_run 22 = .ok (.ireturn, 1) := by decide +kernel
theorem dX9_run_23 : decode cX9_run 23 = .ok (.aload_n 0, 1) := by decide +kernel
theorem dX9_run_24 : decode cX9_run 24 = .ok (.iload_n 2, 1) := by decide +kernel
theorem dX9_run_25 : decode cX9_run 25 = .ok (.iconst 0, 1) := by decide +kernel
theorem dX9_run_26 : decode cX9_run 26 = .ok (.bipush 60, 2) := by decide +kernel
theorem dX9_run_28 : decode cX9_run 28 = .ok (.invokevirtual 203, 3) := by decide +kernel
theorem dX9_run_31 : decode cX9_run 31 = .ok (.ifCond .ne 7, 3) := by decide +kernel
theorem dX9_run_34 : decode cX9_run 34 = .ok (.sipush (-10002), 3) := by decide +kernel
theorem dX9_run_37 : decode cX9_run 37 = .ok (.ireturn, 1) := by decide +kernel
theorem dX9_run_38 : decode cX9_run 38 = .ok (.aload_n 0, 1) := by decide +kernel
theorem dX9_run_39 : decode cX9_run 39 = .ok (.invokevirtual 337, 3) := by decide +kernel
theorem dX9_run_42 : decode cX9_run 42 = .ok (.iconst 0, 1) := by decide +kernel
theorem dX9_run_43 : decode cX9_run 43 = .ok (.istore 4, 2) := by decide +kernel
theorem dX9_run_45 : decode cX9_run 45 = .ok (.iload 4, 2) := by decide +kernel
theorem dX9_run_47 : decode cX9_run 47 = .ok (.iload_n 2, 1) := by decide +kernel
theorem dX9_run_48 : decode cX9_run 48 = .ok (.if_icmp .ge 13, 3) := by decide +kernel
theorem dX9_run_51 : decode cX9_run 51 = .ok (.aload_n 0, 1) := by decide +kernel
theorem dX9_run_52 : decode cX9_run 52 = .ok (.invokevirtual 318, 3) := by decide +kernel
theorem dX9_run_55 : decode cX9_run 55 = .ok (.iinc 4 1, 3) := by decide +kernel
theorem dX9_run_58 : decode cX9_run 58 = .ok (.goto (-13), 3) := by decide +kernel
theorem dX9_run_61 : decode cX9_run 61 = .ok (.iload_n 3, 1) := by decide +kernel
theorem dX9_run_62 : decode cX9_run 62 = .ok (.bipush 6, 2) := by decide +kernel
theorem dX9_run_64 : decode cX9_run 64 = .ok (.if_icmp .ge 12, 3) := by decide +kernel
theorem dX9_run_67 : decode cX9_run 67 = .ok (.aload_n 0, 1) := by decide +kernel
theorem dX9_run_68 : decode cX9_run 68 = .ok (.iload_n 1, 1) := by decide +kernel
theorem dX9_run_69 : decode cX9_run 69 = .ok (.iload_n 3, 1) := by decide +kernel
theorem dX9_run_70 : decode cX9_run 70 = .ok (.invokevirtual 299, 3) := by decide +kernel
theorem dX9_run_73 : decode cX9_run 73 = .ok (.goto 39, 3) := by decide +kernel
theorem dX9_run_76 : decode cX9_run 76 = .ok (.iload_n 3, 1) := by decide +kernel
theorem dX9_run_77 : decode cX9_run 77 = .ok (.bipush 6, 2) := by decide +kernel
theorem dX9_run_79 : decode cX9_run 79 = .ok (.if_icmp .ne 12, 3) := by decide +kernel
theorem dX9_run_82 : decode cX9_run 82 = .ok (.aload_n 0, 1) := by decide +kernel
theorem dX9_run_83 : decode cX9_run 83 = .ok (.getfield 29, 3) := by decide +kernel
theorem dX9_run_86 : decode cX9_run 86 = .ok (.iload_n 1, 1) := by decide +kernel
theorem dX9_run_87 : decode cX9_run 87 = .ok (.iaload, 1) := by decide +kernel
theorem dX9_run_88 : decode cX9_run 88 = .ok (.goto 24, 3) := by decide +kernel
theorem dX9_run_91 : decode cX9_run 91 = .ok (.iload_n 3, 1) := by decide +kernel
theorem dX9_run_92 : decode cX9_run 92 = .ok (.bipush 7, 2) := by decide +kernel
theorem dX9_run_94 : decode cX9_run 94 = .ok (.if_icmp .ne 12, 3) := by decide +kernel
theorem dX9_run_97 : decode cX9_run 97 = .ok (.aload_n 0, 1) := by decide +kernel
theorem dX9_run_98 : decode cX9_run 98 = .ok (.getfield 32, 3) := by decide +kernel
theorem dX9_run_101 : decode cX9_run 101 = .ok (.iload_n 1, 1) := by decide +kernel
theorem dX9_run_102 : decode cX9_run 102 = .ok (.iaload, 1) := by decide +kernel
theorem dX9_run_103 : decode cX9_run 103 = .ok (.goto 9, 3) := by decide +kernel
theorem dX9_run_106 : decode cX9_run 106 = .ok (.aload_n 0, 1) := by decide +kernel
theorem dX9_run_107 : decode cX9_run 107 = .ok (.getfield 38, 3) := by decide +kernel
theorem dX9_run_110 : decode cX9_run 110 = .ok (.iload_n 1, 1) := by decide +kernel
theorem dX9_run_111 : decode cX9_run 111 = .ok (.iaload, 1) := by decide +kernel
theorem dX9_run_112 : decode cX9_run 112 = .ok (.istore 4, 2) := by decide +kernel
theorem dX9_run_114 : decode cX9_run 114 = .ok (.aload_n 0, 1) := by decide +kernel
theorem dX9_run_115 : decode cX9_run 115 = .ok (.invokevirtual 340, 3) := by decide +kernel
theorem dX9_run_118 : decode cX9_run 118 = .ok (.iload 4, 2) := by decide +kernel
theorem dX9_run_120 : decode cX9_run 120 = .ok (.ireturn, 1) := by decide +kernel
theorem dX9_first_0 : decode cX9_first 0 = .ok (.aload_n 0, 1) := by decide +kernel
theorem dX9_first_1 : decode cX9_first 1 = .ok (.iload_n 1, 1) := by decide +kernel
theorem dX9_first_2 : decode cX9_first 2 = .ok (.invokevirtual 207, 3) := by decide +kernel
theorem dX9_first_5 : decode cX9_first 5 = .ok (.ifCond .eq 13, 3) := by decide +kernel
theorem dX9_first_8 : decode cX9_first 8 = .ok (.aload_n 0, 1) := by decide +kernel
theorem dX9_first_9 : decode cX9_first 9 = .ok (.iload_n 2, 1) := by decide +kernel
theorem dX9_first_10 : decode cX9_first 10 = .ok (.iconst 0, 1) := by decide +kernel
theorem dX9_first_11 : decode cX9_first 11 = .ok (.iconst 1, 1) := by decide +kernel
theorem dX9_first_12 : decode cX9_first 12 = .ok (.invokevirtual 203, 3) := by decide +kernel
theorem dX9_first_15 : decode cX9_first 15 = .ok (.ifCond .ne 5, 3) := by decide +kernel
theorem dX9_first_18 : decode cX9_first 18 = .ok (.iconst (-1), 1) := by decide +kernel
theorem dX9_first_19 : decode cX9_first 19 = .ok (.ireturn, 1) := by decide +kernel
theorem dX9_first_20 : decode cX9_first 20 = .ok (.aload_n 0, 1) := by decide +kernel
theorem dX9_first_21 : decode cX9_first 21 = .ok (.invokevirtual 337, 3) := by decide +kernel
theorem dX9_first_24 : decode cX9_first 24 = .ok (.iconst 0, 1) := by decide +kernel
theorem dX9_first_25 : decode cX9_first 25 = .ok (.istore_n 3, 1) := by decide +kernel
theorem dX9_first_26 : decode cX9_first 26 = .ok (.iload_n 3, 1) := by decide +kernel
theorem dX9_first_27 : decode cX9_first 27 = .ok (.bipush 61, 2) := by decide +kernel
theorem dX9_first_29 : decode cX9_first 29 = .ok (.if_icmp .ge 21, 3) := by decide +kernel
theorem dX9_first_32 : decode cX9_first 32 = .ok (.aload_n 0, 1) := by decide +kernel
theorem dX9_first_33 : decode cX9_first 33 = .ok (.iload_n 1, 1) := by decide +kernel
theorem dX9_first_34 : decode cX9_first 34 = .ok (.invokevirtual 305, 3) := by decide +kernel
theorem dX9_first_37 : decode cX9_first 37 = .ok (.ifCond .ne 13, 3) := by decide +kernel
theorem dX9_first_40 : decode cX9_first 40 = .ok (.aload_n 0, 1) := by decide +kernel
theorem dX9_first_41 : decode cX9_first 41 = .ok (.invokevirtual 318, 3) := by decide +kernel
theorem dX9_first_44 : decode cX9_first 44 = .ok (.iinc 3 1, 3) := by decide +kernel
theorem dX9_first_47 : decode cX9_first 47 = .ok (.goto (-21), 3) := by decide +kernel
theorem dX9_first_50 : decode cX9_first 50 = .ok (.aload_n 0, 1) := by decide +kernel
theorem dX9_first_51 : decode cX9_first 51 = .ok (.iload_n 1, 1) := by decide +kernel
theorem dX9_first_52 : decode cX9_first 52 = .ok (.invokevirtual 305, 3) := by decide +kernel
theorem dX9_first_55 : decode cX9_first 55 = .ok (.istore 4, 2) := by decide +kernel
theorem dX9_first_57 : decode cX9_first 57 = .ok (.aload_n 0, 1) := by decide +kernel
theorem dX9_first_58 : decode cX9_first 58 = .ok (.invokevirtual 340, 3) := by decide +kernel
theorem dX9_first_61 : decode cX9_first 61 = .ok (.iload_n 3, 1) := by decide +kernel
theorem dX9_first_62 : decode cX9_first 62 = .ok (.bipush 61, 2) := by decide +kernel
theorem dX9_first_64 : decode cX9_first 64 = .ok (.if_icmp .ne 6, 3) := by decide +kernel
theorem dX9_first_67 : decode cX9_first 67 = .ok (.bipush (-5), 2) := by decide +kernel
theorem dX9_first_69 : decode cX9_first 69 = .ok (.ireturn, 1) := by decide +kernel
theorem dX9_first_70 : decode cX9_first 70 = .ok (.iconst 0, 1) := by decide +kernel
theorem dX9_first_71 : decode cX9_first 71 = .ok (.istore 5, 2) := by decide +kernel
theorem dX9_first_73 : decode cX9_first 73 = .ok (.iload 4, 2) := by decide +kernel
theorem dX9_first_75 : decode cX9_first 75 = .ok (.iload 5, 2) := by decide +kernel
theorem dX9_first_77 : decode cX9_first 77 = .ok (.ishr, 1) := by decide +kernel
theorem dX9_first_78 : decode cX9_first 78 = .ok (.iconst 1, 1) := by decide +kernel
theorem dX9_first_79 : decode cX9_first 79 = .ok (.iand, 1) := by decide +kernel
theorem dX9_first_80 : decode cX9_first 80 = .ok (.ifCond .ne 9, 3) := by decide +kernel
theorem dX9_first_83 : decode cX9_first 83 = .ok (.iinc 5 1, 3) := by decide +kernel
theorem dX9_first_86 : decode cX9_first 86 = .ok (.goto (-13), 3) := by decide +kernel
theorem dX9_first_89 : decode cX9_first 89 = .ok (.iload_n 2, 1) := by decide +kernel
theorem dX9_first_90 : decode cX9_first 90 = .ok (.ifCond .ne 7, 3) := by decide +kernel
theorem dX9_first_93 : decode cX9_first 93 = .ok (.iload_n 3, 1) := by decide +kernel
theorem dX9_first_94 : decode cX9_first 94 = .ok (.goto 5, 3) := by decide +kernel
theorem dX9_first_97 : decode cX9_first 97 = .ok (.iload 5, 2) := by decide +kernel
theorem dX9_first_99 : decode cX9_first 99 = .ok (.ireturn, 1) := by decide +kernel
theorem dX9_layGaps_0 : decode cX9_layGaps 0 = .ok (.aload_n 0, 1) := by decide +kernel
theorem dX9_layGaps_1 : decode cX9_layGaps 1 = .ok (.invokevirtual 337, 3) := by decide +kernel
theorem dX9_layGaps_4 : decode cX9_layGaps 4 = .ok (.aload_n 0, 1) := by decide +kernel
theorem dX9_layGaps_5 : decode cX9_layGaps 5 = .ok (.aload_n 0, 1) := by decide +kernel
theorem dX9_layGaps_6 : decode cX9_layGaps 6 = .ok (.iload_n 1, 1) := by decide +kernel
theorem dX9_layGaps_7 : decode cX9_layGaps 7 = .ok (.iload_n 2, 1) := by decide +kernel
theorem dX9_layGaps_8 : decode cX9_layGaps 8 = .ok (.invokevirtual 299, 3) := by decide +kernel
theorem dX9_layGaps_11 : decode cX9_layGaps 11 = .ok (.putfield 117, 3) := by decide +kernel
theorem dX9_layGaps_14 : decode cX9_layGaps 14 = .ok (.aload_n 0, 1) := by decide +kernel
theorem dX9_layGaps_15 : decode cX9_layGaps 15 = .ok (.aload_n 0, 1) := by decide +kernel
theorem dX9_layGaps_16 : decode cX9_layGaps 16 = .ok (.getfield 117, 3) := by decide +kernel
theorem dX9_layGaps_19 : decode cX9_layGaps 19 = .ok (.putfield 120, 3) := by decide +kernel
theorem dX9_layGaps_22 : decode cX9_layGaps 22 = .ok (.iconst 0, 1) := by decide +kernel
theorem dX9_layGaps_23 : decode cX9_layGaps 23 = .ok (.istore 4, 2) := by decide +kernel
theorem dX9_layGaps_25 : decode cX9_layGaps 25 = .ok (.iload 4, 2) := by decide +kernel
theorem dX9_layGaps_27 : decode cX9_layGaps 27 = .ok (.iload_n 3, 1) := by decide +kernel
theorem dX9_layGaps_28 : decode cX9_layGaps 28 = .ok (.if_icmp .ge 65, 3) := by decide +kernel
theorem dX9_layGaps_31 : decode cX9_layGaps 31 = .ok (.aload_n 0, 1) := by decide +kernel
theorem dX9_layGaps_32 : decode cX9_layGaps 32 = .ok (.invokevirtual 318, 3) := by decide +kernel
theorem dX9_layGaps_35 : decode cX9_layGaps 35 = .ok (.aload_n 0, 1) := by decide +kernel
theorem dX9_layGaps_36 : decode cX9_layGaps 36 = .ok (.iload_n 1, 1) := by decide +kernel
theorem dX9_layGaps_37 : decode cX9_layGaps 37 = .ok (.iload_n 2, 1) := by decide +kernel
theorem dX9_layGaps_38 : decode cX9_layGaps 38 = .ok (.invokevirtual 299, 3) := by decide +kernel
theorem dX9_layGaps_41 : decode cX9_layGaps 41 = .ok (.istore 5, 2) := by decide +kernel
theorem dX9_layGaps_43 : decode cX9_layGaps 43 = .ok (.aload_n 0, 1) := by decide +kernel
theorem dX9_layGaps_44 : decode cX9_layGaps 44 = .ok (.iload 5, 2) := by decide +kernel
theorem dX9_layGaps_46 : decode cX9_layGaps 46 = .ok (.aload_n 0, 1) := by decide +kernel
theorem dX9_layGaps_47 : decode cX9_layGaps 47 = .ok (.getfield 117, 3) := by decide +kernel
theorem dX9_layGaps_50 : decode cX9_layGaps 50 = .ok (.if_icmp .ge 8, 3) := by decide +kernel
theorem dX9_layGaps_53 : decode cX9_layGaps 53 = .ok (.iload 5, 2) := by decide +kernel
theorem dX9_layGaps_55 : decode cX9_layGaps 55 = .ok (.goto 7, 3) := by decide +kernel
theorem dX9_layGaps_58 : decode cX9_layGaps 58 = .ok (.aload_n 0, 1) := by decide +kernel
theorem dX9_layGaps_59 : decode cX9_layGaps 59 = .ok (.getfield 117, 3) := by decide +kernel
theorem dX9_layGaps_62 : decode cX9_layGaps 62 = .ok (.putfield 117, 3) := by decide +kernel
theorem dX9_layGaps_65 : decode cX9_layGaps 65 = .ok (.aload_n 0, 1) := by decide +kernel
theorem dX9_layGaps_66 : decode cX9_layGaps 66 = .ok (.iload 5, 2) := by decide +kernel
theorem dX9_layGaps_68 : decode cX9_layGaps 68 = .ok (.aload_n 0, 1) := by decide +kernel
theorem dX9_layGaps_69 : decode cX9_layGaps 69 = .ok (.getfield 120, 3) := by decide +kernel
theorem dX9_layGaps_72 : decode cX9_layGaps 72 = .ok (.if_icmp .le 8, 3) := by decide +kernel
theorem dX9_layGaps_75 : decode cX9_layGaps 75 = .ok (.iload 5, 2) := by decide +kernel
theorem dX9_layGaps_77 : decode cX9_layGaps 77 = .ok (.goto 7, 3) := by decide +kernel
theorem dX9_layGaps_80 : decode cX9_layGaps 80 = .ok (.aload_n 0, 1) := by decide +kernel
theorem dX9_layGaps_81 : decode cX9_layGaps 81 = .ok (.getfield 120, 3) := by decide +kernel
theorem dX9_layGaps_84 : decode cX9_layGaps 84 = .ok (.putfield 120, 3) := by decide +kernel
theorem dX9_layGaps_87 : decode cX9_layGaps 87 = .ok (.iinc 4 1, 3) := by decide +kernel
theorem dX9_layGaps_90 : decode cX9_layGaps 90 = .ok (.goto (-65), 3) := by decide +kernel
theorem dX9_layGaps_93 : decode cX9_layGaps 93 = .ok (.aload_n 0, 1) := by decide +kernel
theorem dX9_layGaps_94 : decode cX9_layGaps 94 = .ok (.invokevirtual 340, 3) := by decide +kernel
theorem dX9_layGaps_97 : decode cX9_layGaps 97 = .ok (.return_, 1) := by decide +kernel
theorem dX9_worst_0 : decode cX9_worst 0 = .ok (.aload_n 0, 1) := by decide +kernel
theorem dX9_worst_1 : decode cX9_worst 1 = .ok (.iload_n 1, 1) := by decide +kernel
theorem dX9_worst_2 : decode cX9_worst 2 = .ok (.invokevirtual 207, 3) := by decide +kernel
theorem dX9_worst_5 : decode cX9_worst 5 = .ok (.ifCond .eq 22, 3) := by decide +kernel
theorem dX9_worst_8 : decode cX9_worst 8 = .ok (.aload_n 0, 1) := by decide +kernel
theorem dX9_worst_9 : decode cX9_worst 9 = .ok (.iload_n 2, 1) := by decide +kernel
theorem dX9_worst_10 : decode cX9_worst 10 = .ok (.invokevirtual 321, 3) := by decide +kernel
theorem dX9_worst_13 : decode cX9_worst 13 = .ok (.ifCond .eq 14, 3) := by decide +kernel
theorem dX9_worst_16 : decode cX9_worst 16 = .ok (.aload_n 0, 1) := by decide +kernel
theorem dX9_worst_17 : decode cX9_worst 17 = .ok (.iload 4, 2) := by decide +kernel
theorem dX9_worst_19 : decode cX9_worst 19 = .ok (.iconst 0, 1) := by decide +kernel
theorem dX9_worst_20 : decode cX9_worst 20 = .ok (.iconst 1, 1) := by decide +kernel
theorem dX9_worst_21 : decode cX9_worst 21 = .ok (.invokevirtual 203, 3) := by decide +kernel
theorem dX9_worst_24 : decode cX9_worst 24 = .ok (.ifCond .ne 7, 3) := by decide +kernel
theorem dX9_worst_27 : decode cX9_worst 27 = .ok (.sipush (-10001), 3) := by decide +kernel
theorem dX9_worst_30 : decode cX9_worst 30 = .ok (.ireturn, 1) := by decide +kernel
theorem dX9_worst_31 : decode cX9_worst 31 = .ok (.aload_n 0, 1) := by decide +kernel
theorem dX9_worst_32 : decode cX9_worst 32 = .ok (.iload_n 3, 1) := by decide +kernel
theorem dX9_worst_33 : decode cX9_worst 33 = .ok (.iconst 0, 1) := by decide +kernel
theorem dX9_worst_34 : decode cX9_worst 34 = .ok (.bipush 60, 2) := by decide +kernel
theorem dX9_worst_36 : decode cX9_worst 36 = .ok (.invokevirtual 203, 3) := by decide +kernel
theorem dX9_worst_39 : decode cX9_worst 39 = .ok (.ifCond .ne 7, 3) := by decide +kernel
theorem dX9_worst_42 : decode cX9_worst 42 = .ok (.sipush (-10002), 3) := by decide +kernel
theorem dX9_worst_45 : decode cX9_worst 45 = .ok (.ireturn, 1) := by decide +kernel
theorem dX9_worst_46 : decode cX9_worst 46 = .ok (.aload_n 0, 1) := by decide +kernel
theorem dX9_worst_47 : decode cX9_worst 47 = .ok (.iload_n 1, 1) := by decide +kernel
theorem dX9_worst_48 : decode cX9_worst 48 = .ok (.iload_n 2, 1) := by decide +kernel
theorem dX9_worst_49 : decode cX9_worst 49 = .ok (.iload_n 3, 1) := by decide +kernel
theorem dX9_worst_50 : decode cX9_worst 50 = .ok (.invokevirtual 343, 3) := by decide +kernel
theorem dX9_worst_53 : decode cX9_worst 53 = .ok (.iload 4, 2) := by decide +kernel
theorem dX9_worst_55 : decode cX9_worst 55 = .ok (.ifCond .ne 10, 3) := by decide +kernel
theorem dX9_worst_58 : decode cX9_worst 58 = .ok (.aload_n 0, 1) := by decide +kernel
theorem dX9_worst_59 : decode cX9_worst 59 = .ok (.getfield 117, 3) := by decide +kernel
theorem dX9_worst_62 : decode cX9_worst 62 = .ok (.goto 7, 3) := by decide +kernel
theorem dX9_worst_65 : decode cX9_worst 65 = .ok (.aload_n 0, 1) := by decide +kernel
theorem dX9_worst_66 : decode cX9_worst 66 = .ok (.getfield 120, 3) := by decide +kernel
theorem dX9_worst_69 : decode cX9_worst 69 = .ok (.ireturn, 1) := by decide +kernel
theorem dX9_offOf_0 : decode cX9_offOf 0 = .ok (.aload_n 0, 1) := by decide +kernel
theorem dX9_offOf_1 : decode cX9_offOf 1 = .ok (.iload_n 1, 1) := by decide +kernel
theorem dX9_offOf_2 : decode cX9_offOf 2 = .ok (.iload_n 2, 1) := by decide +kernel
theorem dX9_offOf_3 : decode cX9_offOf 3 = .ok (.bipush 12, 2) := by decide +kernel
theorem dX9_offOf_5 : decode cX9_offOf 5 = .ok (.invokevirtual 343, 3) := by decide +kernel
theorem dX9_offOf_8 : decode cX9_offOf 8 = .ok (.aload_n 0, 1) := by decide +kernel
theorem dX9_offOf_9 : decode cX9_offOf 9 = .ok (.getfield 117, 3) := by decide +kernel
theorem dX9_offOf_12 : decode cX9_offOf 12 = .ok (.ifCond .ge 11, 3) := by decide +kernel
theorem dX9_offOf_15 : decode cX9_offOf 15 = .ok (.aload_n 0, 1) := by decide +kernel
theorem dX9_offOf_16 : decode cX9_offOf 16 = .ok (.getfield 117, 3) := by decide +kernel
theorem dX9_offOf_19 : decode cX9_offOf 19 = .ok (.ineg, 1) := by decide +kernel
theorem dX9_offOf_20 : decode cX9_offOf 20 = .ok (.goto 4, 3) := by decide +kernel
theorem dX9_offOf_23 : decode cX9_offOf 23 = .ok (.iconst 0, 1) := by decide +kernel
theorem dX9_offOf_24 : decode cX9_offOf 24 = .ok (.ireturn, 1) := by decide +kernel
theorem dX9_off_0 : decode cX9_off 0 = .ok (.aload_n 0, 1) := by decide +kernel
theorem dX9_off_1 : decode cX9_off 1 = .ok (.iload_n 1, 1) := by decide +kernel
theorem dX9_off_2 : decode cX9_off 2 = .ok (.invokevirtual 207, 3) := by decide +kernel
theorem dX9_off_5 : decode cX9_off 5 = .ok (.ifCond .eq 16, 3) := by decide +kernel
theorem dX9_off_8 : decode cX9_off 8 = .ok (.iload_n 2, 1) := by decide +kernel
theorem dX9_off_9 : decode cX9_off 9 = .ok (.iconst (-1), 1) := by decide +kernel
theorem dX9_off_10 : decode cX9_off 10 = .ok (.if_icmp .eq 13, 3) := by decide +kernel
theorem dX9_off_13 : decode cX9_off 13 = .ok (.aload_n 0, 1) := by decide +kernel
theorem dX9_off_14 : decode cX9_off 14 = .ok (.iload_n 2, 1) := by decide +kernel
theorem dX9_off_15 : decode cX9_off 15 = .ok (.invokevirtual 321, 3) := by decide +kernel
theorem dX9_off_18 : decode cX9_off 18 = .ok (.ifCond .ne 5, 3) := by decide +kernel
theorem dX9_off_21 : decode cX9_off 21 = .ok (.iconst (-1), 1) := by decide +kernel
theorem dX9_off_22 : decode cX9_off 22 = .ok (.ireturn, 1) := by decide +kernel
theorem dX9_off_23 : decode cX9_off 23 = .ok (.iload_n 2, 1) := by decide +kernel
theorem dX9_off_24 : decode cX9_off 24 = .ok (.ifCond .lt 10, 3) := by decide +kernel
theorem dX9_off_27 : decode cX9_off 27 = .ok (.aload_n 0, 1) := by decide +kernel
theorem dX9_off_28 : decode cX9_off 28 = .ok (.iload_n 1, 1) := by decide +kernel
theorem dX9_off_29 : decode cX9_off 29 = .ok (.iload_n 2, 1) := by decide +kernel
theorem dX9_off_30 : decode cX9_off 30 = .ok (.invokevirtual 347, 3) := by decide +kernel
theorem dX9_off_33 : decode cX9_off 33 = .ok (.ireturn, 1) := by decide +kernel
theorem dX9_off_34 : decode cX9_off 34 = .ok (.aload_n 0, 1) := by decide +kernel
theorem dX9_off_35 : decode cX9_off 35 = .ok (.iconst 3, 1) := by decide +kernel
theorem dX9_off_36 : decode cX9_off 36 = .ok (.bipush 9, 2) := by decide +kernel
theorem dX9_off_38 : decode cX9_off 38 = .ok (.invokevirtual 302, 3) := by decide +kernel
theorem dX9_off_41 : decode cX9_off 41 = .ok (.istore_n 3, 1) := by decide +kernel
theorem dX9_off_42 : decode cX9_off 42 = .ok (.iconst 0, 1) := by decide +kernel
theorem dX9_off_43 : decode cX9_off 43 = .ok (.istore 4, 2) := by decide +kernel
theorem dX9_off_45 : decode cX9_off 45 = .ok (.iload 4, 2) := by decide +kernel
theorem dX9_off_47 : decode cX9_off 47 = .ok (.bipush 6, 2) := by decide +kernel
theorem dX9_off_49 : decode cX9_off 49 = .ok (.if_icmp .ge 31, 3) := by decide +kernel
theorem dX9_off_52 : decode cX9_off 52 = .ok (.aload_n 0, 1) := by decide +kernel
theorem dX9_off_53 : decode cX9_off 53 = .ok (.iload_n 1, 1) := by decide +kernel
theorem dX9_off_54 : decode cX9_off 54 = .ok (.iload 4, 2) := by decide +kernel
theorem dX9_off_56 : decode cX9_off 56 = .ok (.invokevirtual 347, 3) := by decide +kernel
theorem dX9_off_59 : decode cX9_off 59 = .ok (.istore 5, 2) := by decide +kernel
theorem dX9_off_61 : decode cX9_off 61 = .ok (.aload_n 0, 1) := by decide +kernel
theorem dX9_off_62 : decode cX9_off 62 = .ok (.getfield 120, 3) := by decide +kernel
theorem dX9_off_65 : decode cX9_off 65 = .ok (.iload 5, 2) := by decide +kernel
theorem dX9_off_67 : decode cX9_off 67 = .ok (.iadd, 1) := by decide +kernel
theorem dX9_off_68 : decode cX9_off 68 = .ok (.iload_n 3, 1) := by decide +kernel
theorem dX9_off_69 : decode cX9_off 69 = .ok (.if_icmp .le 5, 3) := by decide +kernel
theorem dX9_off_72 : decode cX9_off 72 = .ok (.iconst 0, 1) := by decide +kernel
theorem dX9_off_73 : decode cX9_off 73 = .ok (.ireturn, 1) := by decide +kernel
theorem dX9_off_74 : decode cX9_off 74 = .ok (.iinc 4 1, 3) := by decide +kernel
theorem dX9_off_77 : decode cX9_off 77 = .ok (.goto (-32), 3) := by decide +kernel
theorem dX9_off_80 : decode cX9_off 80 = .ok (.iconst 1, 1) := by decide +kernel
theorem dX9_off_81 : decode cX9_off 81 = .ok (.ireturn, 1) := by decide +kernel
theorem dX9_costOf_0 : decode cX9_costOf 0 = .ok (.aload_n 0, 1) := by decide +kernel
theorem dX9_costOf_1 : decode cX9_costOf 1 = .ok (.getfield 41, 3) := by decide +kernel
theorem dX9_costOf_4 : decode cX9_costOf 4 = .ok (.iload_n 1, 1) := by decide +kernel
theorem dX9_costOf_5 : decode cX9_costOf 5 = .ok (.iaload, 1) := by decide +kernel
theorem dX9_costOf_6 : decode cX9_costOf 6 = .ok (.istore_n 3, 1) := by decide +kernel
theorem dX9_costOf_7 : decode cX9_costOf 7 = .ok (.aload_n 0, 1) := by decide +kernel
theorem dX9_costOf_8 : decode cX9_costOf 8 = .ok (.getfield 38, 3) := by decide +kernel
theorem dX9_costOf_11 : decode cX9_costOf 11 = .ok (.iload_n 1, 1) := by decide +kernel
theorem dX9_costOf_12 : decode cX9_costOf 12 = .ok (.iaload, 1) := by decide +kernel
theorem dX9_costOf_13 : decode cX9_costOf 13 = .ok (.istore 4, 2) := by decide +kernel
theorem dX9_costOf_15 : decode cX9_costOf 15 = .ok (.aload_n 0, 1) := by decide +kernel
theorem dX9_costOf_16 : decode cX9_costOf 16 = .ok (.getfield 35, 3) := by decide +kernel
theorem dX9_costOf_19 : decode cX9_costOf 19 = .ok (.iload_n 1, 1) := by decide +kernel
theorem dX9_costOf_20 : decode cX9_costOf 20 = .ok (.iaload, 1) := by decide +kernel
theorem dX9_costOf_21 : decode cX9_costOf 21 = .ok (.istore 5, 2) := by decide +kernel
theorem dX9_costOf_23 : decode cX9_costOf 23 = .ok (.iload_n 2, 1) := by decide +kernel
theorem dX9_costOf_24 : decode cX9_costOf 24 = .ok (.iconst 2, 1) := by decide +kernel
theorem dX9_costOf_25 : decode cX9_costOf 25 = .ok (.iand, 1) := by decide +kernel
theorem dX9_costOf_26 : decode cX9_costOf 26 = .ok (.ifCond .le 33, 3) := by decide +kernel
theorem dX9_costOf_29 : decode cX9_costOf 29 = .ok (.aload_n 0, 1) := by decide +kernel
theorem dX9_costOf_30 : decode cX9_costOf 30 = .ok (.getfield 41, 3) := by decide +kernel
theorem dX9_costOf_33 : decode cX9_costOf 33 = .ok (.iload_n 1, 1) := by decide +kernel
theorem dX9_costOf_34 : decode cX9_costOf 34 = .ok (.aload_n 0, 1) := by decide +kernel
theorem dX9_costOf_35 : decode cX9_costOf 35 = .ok (.getfield 41, 3) := by decide +kernel
theorem dX9_costOf_38 : decode cX9_costOf 38 = .ok (.iload_n 1, 1) := by decide +kernel
theorem dX9_costOf_39 : decode cX9_costOf 39 = .ok (.iaload, 1) := by decide +kernel
theorem dX9_costOf_40 : decode cX9_costOf 40 = .ok (.bipush 7, 2) := by decide +kernel
theorem dX9_costOf_42 : decode cX9_costOf 42 = .ok (.if_icmp .le 8, 3) := by decide +kernel
theorem dX9_costOf_45 : decode cX9_costOf 45 = .ok (.bipush 9, 2) := by decide +kernel
theorem dX9_costOf_47 : decode cX9_costOf 47 = .ok (.goto 11, 3) := by decide +kernel
theorem dX9_costOf_50 : decode cX9_costOf 50 = .ok (.aload_n 0, 1) := by decide +kernel
theorem dX9_costOf_51 : decode cX9_costOf 51 = .ok (.getfield 41, 3) := by decide +kernel
theorem dX9_costOf_54 : decode cX9_costOf 54 = .ok (.iload_n 1, 1) := by decide +kernel
theorem dX9_costOf_55 : decode cX9_costOf 55 = .ok (.iaload, 1) := by decide +kernel
theorem dX9_costOf_56 : decode cX9_costOf 56 = .ok (.iconst 2, 1) := by decide +kernel
theorem dX9_costOf_57 : decode cX9_costOf 57 = .ok (.iadd, 1) := by decide +kernel
theorem dX9_costOf_58 : decode cX9_costOf 58 = .ok (.iastore, 1) := by decide +kernel
theorem dX9_costOf_59 : decode cX9_costOf 59 = .ok (.iload_n 2, 1) := by decide +kernel
theorem dX9_costOf_60 : decode cX9_costOf 60 = .ok (.iconst 4, 1) := by decide +kernel
theorem dX9_costOf_61 : decode cX9_costOf 61 = .ok (.iand, 1) := by decide +kernel
theorem dX9_costOf_62 : decode cX9_costOf 62 = .ok (.ifCond .le 10, 3) := by decide +kernel
theorem dX9_costOf_65 : decode cX9_costOf 65 = .ok (.aload_n 0, 1) := by decide +kernel
theorem dX9_costOf_66 : decode cX9_costOf 66 = .ok (.getfield 38, 3) := by decide +kernel
theorem dX9_costOf_69 : decode cX9_costOf 69 = .ok (.iload_n 1, 1) := by decide +kernel
theorem dX9_costOf_70 : decode cX9_costOf 70 = .ok (.iconst 0, 1) := by decide +kernel
theorem dX9_costOf_71 : decode cX9_costOf 71 = .ok (.iastore, 1) := by decide +kernel
theorem dX9_costOf_72 : decode cX9_costOf 72 = .ok (.iload_n 2, 1) := by decide +kernel
theorem dX9_costOf_73 : decode cX9_costOf 73 = .ok (.bipush 8, 2) := by decide +kernel
theorem dX9_costOf_75 : decode cX9_costOf 75 = .ok (.iand, 1) := by decide +kernel
theorem dX9_costOf_76 : decode cX9_costOf 76 = .ok (.ifCond .le 10, 3) := by decide +kernel
theorem dX9_costOf_79 : decode cX9_costOf 79 = .ok (.aload_n 0, 1) := by decide +kernel
theorem dX9_costOf_80 : decode cX9_costOf 80 = .ok (.getfield 35, 3) := by decide +kernel
theorem dX9_costOf_83 : decode cX9_costOf 83 = .ok (.iload_n 1, 1) := by decide +kernel
theorem dX9_costOf_84 : decode cX9_costOf 84 = .ok (.iconst 3, 1) := by decide +kernel
theorem dX9_costOf_85 : decode cX9_costOf 85 = .ok (.iastore, 1) := by decide +kernel
theorem dX9_costOf_86 : decode cX9_costOf 86 = .ok (.iconst 0, 1) := by decide +kernel
theorem dX9_costOf_87 : decode cX9_costOf 87 = .ok (.istore 6, 2) := by decide +kernel
theorem dX9_costOf_89 : decode cX9_costOf 89 = .ok (.iconst 0, 1) := by decide +kernel
theorem dX9_costOf_90 : decode cX9_costOf 90 = .ok (.istore 7, 2) := by decide +kernel
theorem dX9_costOf_92 : decode cX9_costOf 92 = .ok (.iload 7, 2) := by decide +kernel
theorem dX9_costOf_94 : decode cX9_costOf 94 = .ok (.bipush 6, 2) := by decide +kernel
theorem dX9_costOf_96 : decode cX9_costOf 96 = .ok (.if_icmp .ge 29, 3) := by decide +kernel
theorem dX9_costOf_99 : decode cX9_costOf 99 = .ok (.iload 6, 2) := by decide +kernel
theorem dX9_costOf_101 : decode cX9_costOf 101 = .ok (.aload_n 0, 1) := by decide +kernel
theorem dX9_costOf_102 : decode cX9_costOf 102 = .ok (.iload_n 1, 1) := by decide +kernel
theorem dX9_costOf_103 : decode cX9_costOf 103 = .ok (.iload 7, 2) := by decide +kernel
theorem dX9_costOf_105 : decode cX9_costOf 105 = .ok (.invokevirtual 347, 3) := by decide +kernel
theorem dX9_costOf_108 : decode cX9_costOf 108 = .ok (.ifCond .le 7, 3) := by decide +kernel
theorem dX9_costOf_111 : decode cX9_costOf 111 = .ok (.iconst 1, 1) := by decide +kernel
theorem dX9_costOf_112 : decode cX9_costOf 112 = .ok (.goto 4, 3) := by decide +kernel
theorem dX9_costOf_115 : decode cX9_costOf 115 = .ok (.iconst 0, 1) := by decide +kernel
theorem dX9_costOf_116 : decode cX9_costOf 116 = .ok (.iadd, 1) := by decide +kernel
theorem dX9_costOf_117 : decode cX9_costOf 117 = .ok (.istore 6, 2) := by decide +kernel
theorem dX9_costOf_119 : decode cX9_costOf 119 = .ok (.iinc 7 1, 3) := by decide +kernel
theorem dX9_costOf_122 : decode cX9_costOf 122 = .ok (.goto (-30), 3) := by decide +kernel
theorem dX9_costOf_125 : decode cX9_costOf 125 = .ok (.aload_n 0, 1) := by decide +kernel
theorem dX9_costOf_126 : decode cX9_costOf 126 = .ok (.getfield 41, 3) := by decide +kernel
theorem dX9_costOf_129 : decode cX9_costOf 129 = .ok (.iload_n 1, 1) := by decide +kernel
theorem dX9_costOf_130 : decode cX9_costOf 130 = .ok (.iload_n 3, 1) := by decide +kernel
theorem dX9_costOf_131 : decode cX9_costOf 131 = .ok (.iastore, 1) := by decide +kernel
theorem dX9_costOf_132 : decode cX9_costOf 132 = .ok (.aload_n 0, 1) := by decide +kernel
theorem dX9_costOf_133 : decode cX9_costOf 133 = .ok (.getfield 38, 3) := by decide +kernel
theorem dX9_costOf_136 : decode cX9_costOf 136 = .ok (.iload_n 1, 1) := by decide +kernel
theorem dX9_costOf_137 : decode cX9_costOf 137 = .ok (.iload 4, 2) := by decide +kernel
theorem dX9_costOf_139 : decode cX9_costOf 139 = .ok (.iastore, 1) := by decide +kernel
theorem dX9_costOf_140 : decode cX9_costOf 140 = .ok (.aload_n 0, 1) := by decide +kernel
theorem dX9_costOf_141 : decode cX9_costOf 141 = .ok (.getfield 35, 3) := by decide +kernel
theorem dX9_costOf_144 : decode cX9_costOf 144 = .ok (.iload_n 1, 1) := by decide +kernel
theorem dX9_costOf_145 : decode cX9_costOf 145 = .ok (.iload 5, 2) := by decide +kernel
theorem dX9_costOf_147 : decode cX9_costOf 147 = .ok (.iastore, 1) := by decide +kernel
theorem dX9_costOf_148 : decode cX9_costOf 148 = .ok (.iload_n 2, 1) := by decide +kernel
theorem dX9_costOf_149 : decode cX9_costOf 149 = .ok (.iconst 2, 1) := by decide +kernel
theorem dX9_costOf_150 : decode cX9_costOf 150 = .ok (.iand, 1) := by decide +kernel
theorem dX9_costOf_151 : decode cX9_costOf 151 = .ok (.ifCond .le 7, 3) := by decide +kernel
theorem dX9_costOf_154 : decode cX9_costOf 154 = .ok (.iconst 1, 1) := by decide +kernel
theorem dX9_costOf_155 : decode cX9_costOf 155 = .ok (.goto 4, 3) := by decide +kernel
theorem dX9_costOf_158 : decode cX9_costOf 158 = .ok (.iconst 0, 1) := by decide +kernel
theorem dX9_costOf_159 : decode cX9_costOf 159 = .ok (.iload_n 2, 1) := by decide +kernel
theorem dX9_costOf_160 : decode cX9_costOf 160 = .ok (.iconst 4, 1) := by decide +kernel
theorem dX9_costOf_161 : decode cX9_costOf 161 = .ok (.iand, 1) := by decide +kernel
theorem dX9_costOf_162 : decode cX9_costOf 162 = .ok (.ifCond .le 7, 3) := by decide +kernel
theorem dX9_costOf_165 : decode cX9_costOf 165 = .ok (.iconst 2, 1) := by decide +kernel
theorem dX9_costOf_166 : decode cX9_costOf 166 = .ok (.goto 4, 3) := by decide +kernel
theorem dX9_costOf_169 : decode cX9_costOf 169 = .ok (.iconst 0, 1) := by decide +kernel
theorem dX9_costOf_170 : decode cX9_costOf 170 = .ok (.iadd, 1) := by decide +kernel
theorem dX9_costOf_171 : decode cX9_costOf 171 = .ok (.iload_n 2, 1) := by decide +kernel
theorem dX9_costOf_172 : decode cX9_costOf 172 = .ok (.bipush 8, 2) := by decide +kernel
theorem dX9_costOf_174 : decode cX9_costOf 174 = .ok (.iand, 1) := by decide +kernel
theorem dX9_costOf_175 : decode cX9_costOf 175 = .ok (.ifCond .le 7, 3) := by decide +kernel
theorem dX9_costOf_178 : decode cX9_costOf 178 = .ok (.iconst 5, 1) := by decide +kernel
theorem dX9_costOf_179 : decode cX9_costOf 179 = .ok (.goto 4, 3) := by decide +kernel
theorem dX9_costOf_182 : decode cX9_costOf 182 = .ok (.iconst 0, 1) := by decide +kernel
theorem dX9_costOf_183 : decode cX9_costOf 183 = .ok (.iadd, 1) := by decide +kernel
theorem dX9_costOf_184 : decode cX9_costOf 184 = .ok (.istore 7, 2) := by decide +kernel
theorem dX9_costOf_186 : decode cX9_costOf 186 = .ok (.iload_n 2, 1) := by decide +kernel
theorem dX9_costOf_187 : decode cX9_costOf 187 = .ok (.iconst 2, 1) := by decide +kernel
theorem dX9_costOf_188 : decode cX9_costOf 188 = .ok (.irem, 1) := by decide +kernel
theorem dX9_costOf_189 : decode cX9_costOf 189 = .ok (.ifCond .ne 15, 3) := by decide +kernel
theorem dX9_costOf_192 : decode cX9_costOf 192 = .ok (.iload 6, 2) := by decide +kernel
theorem dX9_costOf_194 : decode cX9_costOf 194 = .ok (.ifCond .le 7, 3) := by decide +kernel
theorem dX9_costOf_197 : decode cX9_costOf 197 = .ok (.iconst (-1), 1) := by decide +kernel
theorem dX9_costOf_198 : decode cX9_costOf 198 = .ok (.goto 5, 3) := by decide +kernel
theorem dX9_costOf_201 : decode cX9_costOf 201 = .ok (.iload 7, 2) := by decide +kernel
theorem dX9_costOf_203 : decode cX9_costOf 203 = .ok (.ireturn, 1) := by decide +kernel
theorem dX9_costOf_204 : decode cX9_costOf 204 = .ok (.iload 7, 2) := by decide +kernel
theorem dX9_costOf_206 : decode cX9_costOf 206 = .ok (.iconst 3, 1) := by decide +kernel
theorem dX9_costOf_207 : decode cX9_costOf 207 = .ok (.iload 6, 2) := by decide +kernel
theorem dX9_costOf_209 : decode cX9_costOf 209 = .ok (.imul, 1) := by decide +kernel
theorem dX9_costOf_210 : decode cX9_costOf 210 = .ok (.iadd, 1) := by decide +kernel
theorem dX9_costOf_211 : decode cX9_costOf 211 = .ok (.ireturn, 1) := by decide +kernel
theorem dX9_cheapest_0 : decode cX9_cheapest 0 = .ok (.aload_n 0, 1) := by decide +kernel
theorem dX9_cheapest_1 : decode cX9_cheapest 1 = .ok (.iload_n 1, 1) := by decide +kernel
theorem dX9_cheapest_2 : decode cX9_cheapest 2 = .ok (.invokevirtual 207, 3) := by decide +kernel
theorem dX9_cheapest_5 : decode cX9_cheapest 5 = .ok (.ifCond .eq 13, 3) := by decide +kernel
theorem dX9_cheapest_8 : decode cX9_cheapest 8 = .ok (.aload_n 0, 1) := by decide +kernel
theorem dX9_cheapest_9 : decode cX9_cheapest 9 = .ok (.iload_n 2, 1) := by decide +kernel
theorem dX9_cheapest_10 : decode cX9_cheapest 10 = .ok (.iconst 0, 1) := by decide +kernel
theorem dX9_cheapest_11 : decode cX9_cheapest 11 = .ok (.iconst 1, 1) := by decide +kernel
theorem dX9_cheapest_12 : decode cX9_cheapest 12 = .ok (.invokevirtual 203, 3) := by decide +kernel
theorem dX9_cheapest_15 : decode cX9_cheapest 15 = .ok (.ifCond .ne 5, 3) := by decide +kernel
theorem dX9_cheapest_18 : decode cX9_cheapest 18 = .ok (.iconst (-1), 1) := by decide +kernel
theorem dX9_cheapest_19 : decode cX9_cheapest 19 = .ok (.ireturn, 1) := by decide +kernel
theorem dX9_cheapest_20 : decode cX9_cheapest 20 = .ok (.iconst (-1), 1) := by decide +kernel
theorem dX9_cheapest_21 : decode cX9_cheapest 21 = .ok (.istore_n 3, 1) := by decide +kernel
theorem dX9_cheapest_22 : decode cX9_cheapest 22 = .ok (.iconst 0, 1) := by decide +kernel
theorem dX9_cheapest_23 : decode cX9_cheapest 23 = .ok (.istore 4, 2) := by decide +kernel
theorem dX9_cheapest_25 : decode cX9_cheapest 25 = .ok (.iconst 0, 1) := by decide +kernel
theorem dX9_cheapest_26 : decode cX9_cheapest 26 = .ok (.istore 5, 2) := by decide +kernel
theorem dX9_cheapest_28 : decode cX9_cheapest 28 = .ok (.iload 5, 2) := by decide +kernel
theorem dX9_cheapest_30 : decode cX9_cheapest 30 = .ok (.bipush 16, 2) := by decide +kernel
theorem dX9_cheapest_32 : decode cX9_cheapest 32 = .ok (.if_icmp .ge 44, 3) := by decide +kernel
theorem dX9_cheapest_35 : decode cX9_cheapest 35 = .ok (.aload_n 0, 1) := by decide +kernel
theorem dX9_cheapest_36 : decode cX9_cheapest 36 = .ok (.iload_n 1, 1) := by decide +kernel
theorem dX9_cheapest_37 : decode cX9_cheapest 37 = .ok (.iload 5, 2) := by decide +kernel
theorem dX9_cheapest_39 : decode cX9_cheapest 39 = .ok (.invokevirtual 350, 3) := by decide +kernel
theorem dX9_cheapest_42 : decode cX9_cheapest 42 = .ok (.istore 6, 2) := by decide +kernel
theorem dX9_cheapest_44 : decode cX9_cheapest 44 = .ok (.iload 6, 2) := by decide +kernel
theorem dX9_cheapest_46 : decode cX9_cheapest 46 = .ok (.ifCond .lt 24, 3) := by decide +kernel
theorem dX9_cheapest_49 : decode cX9_cheapest 49 = .ok (.iload_n 3, 1) := by decide +kernel
theorem dX9_cheapest_50 : decode cX9_cheapest 50 = .ok (.ifCond .lt 13, 3) := by decide +kernel
theorem dX9_cheapest_53 : decode cX9_cheapest 53 = .ok (.iload 6, 2) := by decide +kernel
theorem dX9_cheapest_55 : decode cX9_cheapest 55 = .ok (.iload 4, 2) := by decide +kernel
theorem dX9_cheapest_57 : decode cX9_cheapest 57 = .ok (.if_icmp .lt 6, 3) := by decide +kernel
theorem dX9_cheapest_60 : decode cX9_cheapest 60 = .ok (.goto 10, 3) := by decide +kernel
theorem dX9_cheapest_63 : decode cX9_cheapest 63 = .ok (.iload 5, 2) := by decide +kernel
theorem dX9_cheapest_65 : decode cX9_cheapest 65 = .ok (.istore_n 3, 1) := by decide +kernel
theorem dX9_cheapest_66 : decode cX9_cheapest 66 = .ok (.iload 6, 2) := by decide +kernel
theorem dX9_cheapest_68 : decode cX9_cheapest 68 = .ok (.istore 4, 2) := by decide +kernel
theorem dX9_cheapest_70 : decode cX9_cheapest 70 = .ok (.iinc 5 1, 3) := by decide +kernel
theorem dX9_cheapest_73 : decode cX9_cheapest 73 = .ok (.goto (-45), 3) := by decide +kernel
theorem dX9_cheapest_76 : decode cX9_cheapest 76 = .ok (.iload_n 2, 1) := by decide +kernel
theorem dX9_cheapest_77 : decode cX9_cheapest 77 = .ok (.ifCond .ne 7, 3) := by decide +kernel
theorem dX9_cheapest_80 : decode cX9_cheapest 80 = .ok (.iload_n 3, 1) := by decide +kernel
theorem dX9_cheapest_81 : decode cX9_cheapest 81 = .ok (.goto 5, 3) := by decide +kernel
theorem dX9_cheapest_84 : decode cX9_cheapest 84 = .ok (.iload 4, 2) := by decide +kernel
theorem dX9_cheapest_86 : decode cX9_cheapest 86 = .ok (.ireturn, 1) := by decide +kernel
theorem dX9_why_0 : decode cX9_why 0 = .ok (.aload_n 0, 1) := by decide +kernel
theorem dX9_why_1 : decode cX9_why 1 = .ok (.iload_n 1, 1) := by decide +kernel
theorem dX9_why_2 : decode cX9_why 2 = .ok (.invokevirtual 207, 3) := by decide +kernel
theorem dX9_why_5 : decode cX9_why 5 = .ok (.ifCond .eq 11, 3) := by decide +kernel
theorem dX9_why_8 : decode cX9_why 8 = .ok (.aload_n 0, 1) := by decide +kernel
theorem dX9_why_9 : decode cX9_why 9 = .ok (.iload_n 2, 1) := by decide +kernel
theorem dX9_why_10 : decode cX9_why 10 = .ok (.invokevirtual 321, 3) := by decide +kernel
theorem dX9_why_13 : decode cX9_why 13 = .ok (.ifCond .ne 5, 3) := by decide +kernel
theorem dX9_why_16 : decode cX9_why 16 = .ok (.iconst (-1), 1) := by decide +kernel
theorem dX9_why_17 : decode cX9_why 17 = .ok (.ireturn, 1) := by decide +kernel
theorem dX9_why_18 : decode cX9_why 18 = .ok (.aload_n 0, 1) := by decide +kernel
theorem dX9_why_19 : decode cX9_why 19 = .ok (.iload_n 1, 1) := by decide +kernel
theorem dX9_why_20 : decode cX9_why 20 = .ok (.iload_n 2, 1) := by decide +kernel
theorem dX9_why_21 : decode cX9_why 21 = .ok (.invokevirtual 299, 3) := by decide +kernel
theorem dX9_why_24 : decode cX9_why 24 = .ok (.ifCond .lt 6, 3) := by decide +kernel
theorem dX9_why_27 : decode cX9_why 27 = .ok (.bipush (-3), 2) := by decide +kernel
theorem dX9_why_29 : decode cX9_why 29 = .ok (.ireturn, 1) := by decide +kernel
theorem dX9_why_30 : decode cX9_why 30 = .ok (.aload_n 0, 1) := by decide +kernel
theorem dX9_why_31 : decode cX9_why 31 = .ok (.iload_n 1, 1) := by decide +kernel
theorem dX9_why_32 : decode cX9_why 32 = .ok (.invokevirtual 286, 3) := by decide +kernel
theorem dX9_why_35 : decode cX9_why 35 = .ok (.istore_n 3, 1) := by decide +kernel
theorem dX9_why_36 : decode cX9_why 36 = .ok (.aload_n 0, 1) := by decide +kernel
theorem dX9_why_37 : decode cX9_why 37 = .ok (.iload_n 1, 1) := by decide +kernel
theorem dX9_why_38 : decode cX9_why 38 = .ok (.invokevirtual 289, 3) := by decide +kernel
theorem dX9_why_41 : decode cX9_why 41 = .ok (.istore 4, 2) := by decide +kernel
theorem dX9_why_43 : decode cX9_why 43 = .ok (.aload_n 0, 1) := by decide +kernel
theorem dX9_why_44 : decode cX9_why 44 = .ok (.iload_n 1, 1) := by decide +kernel
theorem dX9_why_45 : decode cX9_why 45 = .ok (.invokevirtual 292, 3) := by decide +kernel
theorem dX9_why_48 : decode cX9_why 48 = .ok (.istore 5, 2) := by decide +kernel
theorem dX9_why_50 : decode cX9_why 50 = .ok (.aload_n 0, 1) := by decide +kernel
theorem dX9_why_51 : decode cX9_why 51 = .ok (.iload_n 1, 1) := by decide +kernel
theorem dX9_why_52 : decode cX9_why 52 = .ok (.iload_n 2, 1) := by decide +kernel
theorem dX9_why_53 : decode cX9_why 53 = .ok (.iconst 0, 1) := by decide +kernel
theorem dX9_why_54 : decode cX9_why 54 = .ok (.iload 4, 2) := by decide +kernel
theorem dX9_why_56 : decode cX9_why 56 = .ok (.aload_n 0, 1) := by decide +kernel
theorem dX9_why_57 : decode cX9_why 57 = .ok (.getfield 17, 3) := by decide +kernel
theorem dX9_why_60 : decode cX9_why 60 = .ok (.iload 5, 2) := by decide +kernel
theorem dX9_why_62 : decode cX9_why 62 = .ok (.invokevirtual 295, 3) := by decide +kernel
theorem dX9_why_65 : decode cX9_why 65 = .ok (.ifCond .lt 7, 3) := by decide +kernel
theorem dX9_why_68 : decode cX9_why 68 = .ok (.iconst 1, 1) := by decide +kernel
theorem dX9_why_69 : decode cX9_why 69 = .ok (.goto 4, 3) := by decide +kernel
theorem dX9_why_72 : decode cX9_why 72 = .ok (.iconst 0, 1) := by decide +kernel
theorem dX9_why_73 : decode cX9_why 73 = .ok (.istore 6, 2) := by decide +kernel
theorem dX9_why_75 : decode cX9_why 75 = .ok (.iload 6, 2) := by decide +kernel
theorem dX9_why_77 : decode cX9_why 77 = .ok (.aload_n 0, 1) := by decide +kernel
theorem dX9_why_78 : decode cX9_why 78 = .ok (.iload_n 1, 1) := by decide +kernel
theorem dX9_why_79 : decode cX9_why 79 = .ok (.iload_n 2, 1) := by decide +kernel
theorem dX9_why_80 : decode cX9_why 80 = .ok (.iload_n 3, 1) := by decide +kernel
theorem dX9_why_81 : decode cX9_why 81 = .ok (.iconst 0, 1) := by decide +kernel
theorem dX9_why_82 : decode cX9_why 82 = .ok (.aload_n 0, 1) := by decide +kernel
theorem dX9_why_83 : decode cX9_why 83 = .ok (.getfield 17, 3) := by decide +kernel
theorem dX9_why_86 : decode cX9_why 86 = .ok (.iload 5, 2) := by decide +kernel
theorem dX9_why_88 : decode cX9_why 88 = .ok (.invokevirtual 295, 3) := by decide +kernel
theorem dX9_why_91 : decode cX9_why 91 = .ok (.ifCond .lt 7, 3) := by decide +kernel
theorem dX9_why_94 : decode cX9_why 94 = .ok (.iconst 2, 1) := by decide +kernel
theorem dX9_why_95 : decode cX9_why 95 = .ok (.goto 4, 3) := by decide +kernel
theorem dX9_why_98 : decode cX9_why 98 = .ok (.iconst 0, 1) := by decide +kernel
theorem dX9_why_99 : decode cX9_why 99 = .ok (.iadd, 1) := by decide +kernel
theorem dX9_why_100 : decode cX9_why 100 = .ok (.istore 6, 2) := by decide +kernel
theorem dX9_why_102 : decode cX9_why 102 = .ok (.iload 6, 2) := by decide +kernel
theorem dX9_why_104 : decode cX9_why 104 = .ok (.aload_n 0, 1) := by decide +kernel
theorem dX9_why_105 : decode cX9_why 105 = .ok (.iload_n 1, 1) := by decide +kernel
theorem dX9_why_106 : decode cX9_why 106 = .ok (.iload_n 2, 1) := by decide +kernel
theorem dX9_why_107 : decode cX9_why 107 = .ok (.iload_n 3, 1) := by decide +kernel
theorem dX9_why_108 : decode cX9_why 108 = .ok (.iload 4, 2) := by decide +kernel
theorem dX9_why_110 : decode cX9_why 110 = .ok (.iconst 0, 1) := by decide +kernel
theorem dX9_why_111 : decode cX9_why 111 = .ok (.iload 5, 2) := by decide +kernel
theorem dX9_why_113 : decode cX9_why 113 = .ok (.invokevirtual 295, 3) := by decide +kernel
theorem dX9_why_116 : decode cX9_why 116 = .ok (.ifCond .lt 7, 3) := by decide +kernel
theorem dX9_why_119 : decode cX9_why 119 = .ok (.iconst 4, 1) := by decide +kernel
theorem dX9_why_120 : decode cX9_why 120 = .ok (.goto 4, 3) := by decide +kernel
theorem dX9_why_123 : decode cX9_why 123 = .ok (.iconst 0, 1) := by decide +kernel
theorem dX9_why_124 : decode cX9_why 124 = .ok (.iadd, 1) := by decide +kernel
theorem dX9_why_125 : decode cX9_why 125 = .ok (.istore 6, 2) := by decide +kernel
theorem dX9_why_127 : decode cX9_why 127 = .ok (.iload 6, 2) := by decide +kernel
theorem dX9_why_129 : decode cX9_why 129 = .ok (.aload_n 0, 1) := by decide +kernel
theorem dX9_why_130 : decode cX9_why 130 = .ok (.iload_n 1, 1) := by decide +kernel
theorem dX9_why_131 : decode cX9_why 131 = .ok (.iload_n 2, 1) := by decide +kernel
theorem dX9_why_132 : decode cX9_why 132 = .ok (.iload_n 3, 1) := by decide +kernel
theorem dX9_why_133 : decode cX9_why 133 = .ok (.iload 4, 2) := by decide +kernel
theorem dX9_why_135 : decode cX9_why 135 = .ok (.aload_n 0, 1) := by decide +kernel
theorem dX9_why_136 : decode cX9_why 136 = .ok (.getfield 17, 3) := by decide +kernel
theorem dX9_why_139 : decode cX9_why 139 = .ok (.iconst 0, 1) := by decide +kernel
theorem dX9_why_140 : decode cX9_why 140 = .ok (.invokevirtual 295, 3) := by decide +kernel
theorem dX9_why_143 : decode cX9_why 143 = .ok (.ifCond .lt 8, 3) := by decide +kernel
theorem dX9_why_146 : decode cX9_why 146 = .ok (.bipush 8, 2) := by decide +kernel
theorem dX9_why_148 : decode cX9_why 148 = .ok (.goto 4, 3) := by decide +kernel
theorem dX9_why_151 : decode cX9_why 151 = .ok (.iconst 0, 1) := by decide +kernel
theorem dX9_why_152 : decode cX9_why 152 = .ok (.iadd, 1) := by decide +kernel
theorem dX9_why_153 : decode cX9_why 153 = .ok (.ireturn, 1) := by decide +kernel
theorem dX9_divisor_0 : decode cX9_divisor 0 = .ok (.iload_n 1, 1) := by decide +kernel
theorem dX9_divisor_1 : decode cX9_divisor 1 = .ok (.istore_n 3, 1) := by decide +kernel
theorem dX9_divisor_2 : decode cX9_divisor 2 = .ok (.iload_n 2, 1) := by decide +kernel
theorem dX9_divisor_3 : decode cX9_divisor 3 = .ok (.istore 4, 2) := by decide +kernel
theorem dX9_divisor_5 : decode cX9_divisor 5 = .ok (.iload 4, 2) := by decide +kernel
theorem dX9_divisor_7 : decode cX9_divisor 7 = .ok (.ifCond .eq 19, 3) := by decide +kernel
theorem dX9_divisor_10 : decode cX9_divisor 10 = .ok (.iload_n 3, 1) := by decide +kernel
theorem dX9_divisor_11 : decode cX9_divisor 11 = .ok (.iload 4, 2) := by decide +kernel
theorem dX9_divisor_13 : decode cX9_divisor 13 = .ok (.irem, 1) := by decide +kernel
theorem dX9_divisor_14 : decode cX9_divisor 14 = .ok (.istore 5, 2) := by decide +kernel
theorem dX9_divisor_16 : decode cX9_divisor 16 = .ok (.iload 4, 2) := by decide +kernel
theorem dX9_divisor_18 : decode cX9_divisor 18 = .ok (.istore_n 3, 1) := by decide +kernel
theorem dX9_divisor_19 : decode cX9_divisor 19 = .ok (.iload 5, 2) := by decide +kernel
theorem dX9_divisor_21 : decode cX9_divisor 21 = .ok (.istore 4, 2) := by decide +kernel
theorem dX9_divisor_23 : decode cX9_divisor 23 = .ok (.goto (-18), 3) := by decide +kernel
theorem dX9_divisor_26 : decode cX9_divisor 26 = .ok (.iload_n 3, 1) := by decide +kernel
theorem dX9_divisor_27 : decode cX9_divisor 27 = .ok (.ireturn, 1) := by decide +kernel
theorem dX9_byTwelve_0 : decode cX9_byTwelve 0 = .ok (.aload_n 0, 1) := by decide +kernel
theorem dX9_byTwelve_1 : decode cX9_byTwelve 1 = .ok (.iload_n 1, 1) := by decide +kernel
theorem dX9_byTwelve_2 : decode cX9_byTwelve 2 = .ok (.bipush 12, 2) := by decide +kernel
theorem dX9_byTwelve_4 : decode cX9_byTwelve 4 = .ok (.invokevirtual 353, 3) := by decide +kernel
theorem dX9_byTwelve_7 : decode cX9_byTwelve 7 = .ok (.istore_n 3, 1) := by decide +kernel
theorem dX9_byTwelve_8 : decode cX9_byTwelve 8 = .ok (.iload_n 2, 1) := by decide +kernel
theorem dX9_byTwelve_9 : decode cX9_byTwelve 9 = .ok (.ifCond .ne 10, 3) := by decide +kernel
theorem dX9_byTwelve_12 : decode cX9_byTwelve 12 = .ok (.iload_n 1, 1) := by decide +kernel
theorem dX9_byTwelve_13 : decode cX9_byTwelve 13 = .ok (.iload_n 3, 1) := by decide +kernel
theorem dX9_byTwelve_14 : decode cX9_byTwelve 14 = .ok (.idiv, 1) := by decide +kernel
theorem dX9_byTwelve_15 : decode cX9_byTwelve 15 = .ok (.i2l, 1) := by decide +kernel
theorem dX9_byTwelve_16 : decode cX9_byTwelve 16 = .ok (.goto 8, 3) := by decide +kernel
theorem dX9_byTwelve_19 : decode cX9_byTwelve 19 = .ok (.bipush 12, 2) := by decide +kernel
theorem dX9_byTwelve_21 : decode cX9_byTwelve 21 = .ok (.iload_n 3, 1) := by decide +kernel
theorem dX9_byTwelve_22 : decode cX9_byTwelve 22 = .ok (.idiv, 1) := by decide +kernel
theorem dX9_byTwelve_23 : decode cX9_byTwelve 23 = .ok (.i2l, 1) := by decide +kernel
theorem dX9_byTwelve_24 : decode cX9_byTwelve 24 = .ok (.lreturn, 1) := by decide +kernel
theorem dX9_odds_0 : decode cX9_odds 0 = .ok (.aload_n 0, 1) := by decide +kernel
theorem dX9_odds_1 : decode cX9_odds 1 = .ok (.iload_n 1, 1) := by decide +kernel
theorem dX9_odds_2 : decode cX9_odds 2 = .ok (.invokevirtual 207, 3) := by decide +kernel
theorem dX9_odds_5 : decode cX9_odds 5 = .ok (.ifCond .eq 13, 3) := by decide +kernel
theorem dX9_odds_8 : decode cX9_odds 8 = .ok (.aload_n 0, 1) := by decide +kernel
theorem dX9_odds_9 : decode cX9_odds 9 = .ok (.iload_n 2, 1) := by decide +kernel
theorem dX9_odds_10 : decode cX9_odds 10 = .ok (.iconst 0, 1) := by decide +kernel
theorem dX9_odds_11 : decode cX9_odds 11 = .ok (.iconst 1, 1) := by decide +kernel
theorem dX9_odds_12 : decode cX9_odds 12 = .ok (.invokevirtual 203, 3) := by decide +kernel
theorem dX9_odds_15 : decode cX9_odds 15 = .ok (.ifCond .ne 7, 3) := by decide +kernel
theorem dX9_odds_18 : decode cX9_odds 18 = .ok (.ldc2_w 356, 3) := by decide +kernel
theorem dX9_odds_21 : decode cX9_odds 21 = .ok (.lreturn, 1) := by decide +kernel
theorem dX9_odds_22 : decode cX9_odds 22 = .ok (.iconst 0, 1) := by decide +kernel
theorem dX9_odds_23 : decode cX9_odds 23 = .ok (.istore_n 3, 1) := by decide +kernel
theorem dX9_odds_24 : decode cX9_odds 24 = .ok (.aload_n 0, 1) := by decide +kernel
theorem dX9_odds_25 : decode cX9_odds 25 = .ok (.invokevirtual 337, 3) := by decide +kernel
theorem dX9_odds_28 : decode cX9_odds 28 = .ok (.iconst 0, 1) := by decide +kernel
theorem dX9_odds_29 : decode cX9_odds 29 = .ok (.istore 4, 2) := by decide +kernel
theorem dX9_odds_31 : decode cX9_odds 31 = .ok (.iload 4, 2) := by decide +kernel
theorem dX9_odds_33 : decode cX9_odds 33 = .ok (.bipush 12, 2) := by decide +kernel
theorem dX9_odds_35 : decode cX9_odds 35 = .ok (.if_icmp .ge 40, 3) := by decide +kernel
theorem dX9_odds_38 : decode cX9_odds 38 = .ok (.aload_n 0, 1) := by decide +kernel
theorem dX9_odds_39 : decode cX9_odds 39 = .ok (.aload_n 0, 1) := by decide +kernel
theorem dX9_odds_40 : decode cX9_odds 40 = .ok (.getfield 7, 3) := by decide +kernel
theorem dX9_odds_43 : decode cX9_odds 43 = .ok (.iload 4, 2) := by decide +kernel
theorem dX9_odds_45 : decode cX9_odds 45 = .ok (.iaload, 1) := by decide +kernel
theorem dX9_odds_46 : decode cX9_odds 46 = .ok (.invokevirtual 315, 3) := by decide +kernel
theorem dX9_odds_49 : decode cX9_odds 49 = .ok (.iload_n 3, 1) := by decide +kernel
theorem dX9_odds_50 : decode cX9_odds 50 = .ok (.aload_n 0, 1) := by decide +kernel
theorem dX9_odds_51 : decode cX9_odds 51 = .ok (.iload_n 1, 1) := by decide +kernel
theorem dX9_odds_52 : decode cX9_odds 52 = .ok (.invokevirtual 305, 3) := by decide +kernel
theorem dX9_odds_55 : decode cX9_odds 55 = .ok (.ifCond .eq 7, 3) := by decide +kernel
theorem dX9_odds_58 : decode cX9_odds 58 = .ok (.iconst 1, 1) := by decide +kernel
theorem dX9_odds_59 : decode cX9_odds 59 = .ok (.goto 4, 3) := by decide +kernel
theorem dX9_odds_62 : decode cX9_odds 62 = .ok (.iconst 0, 1) := by decide +kernel
theorem dX9_odds_63 : decode cX9_odds 63 = .ok (.iadd, 1) := by decide +kernel
theorem dX9_odds_64 : decode cX9_odds 64 = .ok (.istore_n 3, 1) := by decide +kernel
theorem dX9_odds_65 : decode cX9_odds 65 = .ok (.aload_n 0, 1) := by decide +kernel
theorem dX9_odds_66 : decode cX9_odds 66 = .ok (.invokevirtual 340, 3) := by decide +kernel
theorem dX9_odds_69 : decode cX9_odds 69 = .ok (.iinc 4 1, 3) := by decide +kernel
theorem dX9_odds_72 : decode cX9_odds 72 = .ok (.goto (-41), 3) := by decide +kernel
theorem dX9_odds_75 : decode cX9_odds 75 = .ok (.aload_n 0, 1) := by decide +kernel
theorem dX9_odds_76 : decode cX9_odds 76 = .ok (.iload_n 3, 1) := by decide +kernel
theorem dX9_odds_77 : decode cX9_odds 77 = .ok (.iload_n 2, 1) := by decide +kernel
theorem dX9_odds_78 : decode cX9_odds 78 = .ok (.invokevirtual 358, 3) := by decide +kernel
theorem dX9_odds_81 : decode cX9_odds 81 = .ok (.lreturn, 1) := by decide +kernel
theorem dX9_mean_0 : decode cX9_mean 0 = .ok (.aload_n 0, 1) := by decide +kernel
theorem dX9_mean_1 : decode cX9_mean 1 = .ok (.iload_n 1, 1) := by decide +kernel
theorem dX9_mean_2 : decode cX9_mean 2 = .ok (.invokevirtual 207, 3) := by decide +kernel
theorem dX9_mean_5 : decode cX9_mean 5 = .ok (.ifCond .eq 23, 3) := by decide +kernel
theorem dX9_mean_8 : decode cX9_mean 8 = .ok (.aload_n 0, 1) := by decide +kernel
theorem dX9_mean_9 : decode cX9_mean 9 = .ok (.iload_n 2, 1) := by decide +kernel
theorem dX9_mean_10 : decode cX9_mean 10 = .ok (.iconst 0, 1) := by decide +kernel
theorem dX9_mean_11 : decode cX9_mean 11 = .ok (.iconst 1, 1) := by decide +kernel
theorem dX9_mean_12 : decode cX9_mean 12 = .ok (.invokevirtual 203, 3) := by decide +kernel
theorem dX9_mean_15 : decode cX9_mean 15 = .ok (.ifCond .eq 13, 3) := by decide +kernel
theorem dX9_mean_18 : decode cX9_mean 18 = .ok (.aload_n 0, 1) := by decide +kernel
theorem dX9_mean_19 : decode cX9_mean 19 = .ok (.iload_n 3, 1) := by decide +kernel
theorem dX9_mean_20 : decode cX9_mean 20 = .ok (.iconst 0, 1) := by decide +kernel
theorem dX9_mean_21 : decode cX9_mean 21 = .ok (.iconst 1, 1) := by decide +kernel
theorem dX9_mean_22 : decode cX9_mean 22 = .ok (.invokevirtual 203, 3) := by decide +kernel
theorem dX9_mean_25 : decode cX9_mean 25 = .ok (.ifCond .ne 7, 3) := by decide +kernel
theorem dX9_mean_28 : decode cX9_mean 28 = .ok (.ldc2_w 356, 3) := by decide +kernel
theorem dX9_mean_31 : decode cX9_mean 31 = .ok (.lreturn, 1) := by decide +kernel
theorem dX9_mean_32 : decode cX9_mean 32 = .ok (.iconst 0, 1) := by decide +kernel
theorem dX9_mean_33 : decode cX9_mean 33 = .ok (.istore 4, 2) := by decide +kernel
theorem dX9_mean_35 : decode cX9_mean 35 = .ok (.aload_n 0, 1) := by decide +kernel
theorem dX9_mean_36 : decode cX9_mean 36 = .ok (.invokevirtual 337, 3) := by decide +kernel
theorem dX9_mean_39 : decode cX9_mean 39 = .ok (.iconst 0, 1) := by decide +kernel
theorem dX9_mean_40 : decode cX9_mean 40 = .ok (.istore 5, 2) := by decide +kernel
theorem dX9_mean_42 : decode cX9_mean 42 = .ok (.iload 5, 2) := by decide +kernel
theorem dX9_mean_44 : decode cX9_mean 44 = .ok (.bipush 12, 2) := by decide +kernel
theorem dX9_mean_46 : decode cX9_mean 46 = .ok (.if_icmp .ge 48, 3) := by decide +kernel
theorem dX9_mean_49 : decode cX9_mean 49 = .ok (.aload_n 0, 1) := by decide +kernel
theorem dX9_mean_50 : decode cX9_mean 50 = .ok (.aload_n 0, 1) := by decide +kernel
theorem dX9_mean_51 : decode cX9_mean 51 = .ok (.getfield 7, 3) := by decide +kernel
theorem dX9_mean_54 : decode cX9_mean 54 = .ok (.iload 5, 2) := by decide +kernel
theorem dX9_mean_56 : decode cX9_mean 56 = .ok (.iaload, 1) := by decide +kernel
theorem dX9_mean_57 : decode cX9_mean 57 = .ok (.invokevirtual 315, 3) := by decide +kernel
theorem dX9_mean_60 : decode cX9_mean 60 = .ok (.iload 4, 2) := by decide +kernel
theorem dX9_mean_62 : decode cX9_mean 62 = .ok (.iload_n 2, 1) := by decide +kernel
theorem dX9_mean_63 : decode cX9_mean 63 = .ok (.ifCond .ne 12, 3) := by decide +kernel
theorem dX9_mean_66 : decode cX9_mean 66 = .ok (.aload_n 0, 1) := by decide +kernel
theorem dX9_mean_67 : decode cX9_mean 67 = .ok (.getfield 29, 3) := by decide +kernel
theorem dX9_mean_70 : decode cX9_mean 70 = .ok (.iload_n 1, 1) := by decide +kernel
theorem dX9_mean_71 : decode cX9_mean 71 = .ok (.iaload, 1) := by decide +kernel
theorem dX9_mean_72 : decode cX9_mean 72 = .ok (.goto 9, 3) := by decide +kernel
theorem dX9_mean_75 : decode cX9_mean 75 = .ok (.aload_n 0, 1) := by decide +kernel
theorem dX9_mean_76 : decode cX9_mean 76 = .ok (.getfield 32, 3) := by decide +kernel
theorem dX9_mean_79 : decode cX9_mean 79 = .ok (.iload_n 1, 1) := by decide +kernel
theorem dX9_mean_80 : decode cX9_mean 80 = .ok (.iaload, 1) := by decide +kernel
theorem dX9_mean_81 : decode cX9_mean 81 = .ok (.iadd, 1) := by decide +kernel
theorem dX9_mean_82 : decode cX9_mean 82 = .ok (.istore 4, 2) := by decide +kernel
theorem dX9_mean_84 : decode cX9_mean 84 = .ok (.aload_n 0, 1) := by decide +kernel
theorem dX9_mean_85 : decode cX9_mean 85 = .ok (.invokevirtual 340, 3) := by decide +kernel
theorem dX9_mean_88 : decode cX9_mean 88 = .ok (.iinc 5 1, 3) := by decide +kernel
theorem dX9_mean_91 : decode cX9_mean 91 = .ok (.goto (-49), 3) := by decide +kernel
theorem dX9_mean_94 : decode cX9_mean 94 = .ok (.aload_n 0, 1) := by decide +kernel
theorem dX9_mean_95 : decode cX9_mean 95 = .ok (.iload 4, 2) := by decide +kernel
theorem dX9_mean_97 : decode cX9_mean 97 = .ok (.iload_n 3, 1) := by decide +kernel
theorem dX9_mean_98 : decode cX9_mean 98 = .ok (.invokevirtual 358, 3) := by decide +kernel
theorem dX9_mean_101 : decode cX9_mean 101 = .ok (.lreturn, 1) := by decide +kernel
theorem dX9_ones_0 : decode cX9_ones 0 = .ok (.iconst 0, 1) := by decide +kernel
theorem dX9_ones_1 : decode cX9_ones 1 = .ok (.istore_n 2, 1) := by decide +kernel
theorem dX9_ones_2 : decode cX9_ones 2 = .ok (.iload_n 1, 1) := by decide +kernel
theorem dX9_ones_3 : decode cX9_ones 3 = .ok (.istore_n 3, 1) := by decide +kernel
theorem dX9_ones_4 : decode cX9_ones 4 = .ok (.iload_n 3, 1) := by decide +kernel
theorem dX9_ones_5 : decode cX9_ones 5 = .ok (.ifCond .eq 15, 3) := by decide +kernel
theorem dX9_ones_8 : decode cX9_ones 8 = .ok (.iinc 2 1, 3) := by decide +kernel
theorem dX9_ones_11 : decode cX9_ones 11 = .ok (.iload_n 3, 1) := by decide +kernel
theorem dX9_ones_12 : decode cX9_ones 12 = .ok (.iload_n 3, 1) := by decide +kernel
theorem dX9_ones_13 : decode cX9_ones 13 = .ok (.iconst 1, 1) := by decide +kernel
theorem dX9_ones_14 : decode cX9_ones 14 = .ok (.isub, 1) := by decide +kernel
theorem dX9_ones_15 : decode cX9_ones 15 = .ok (.iand, 1) := by decide +kernel
theorem dX9_ones_16 : decode cX9_ones 16 = .ok (.istore_n 3, 1) := by decide +kernel
theorem dX9_ones_17 : decode cX9_ones 17 = .ok (.goto (-13), 3) := by decide +kernel
theorem dX9_ones_20 : decode cX9_ones 20 = .ok (.iload_n 2, 1) := by decide +kernel
theorem dX9_ones_21 : decode cX9_ones 21 = .ok (.ireturn, 1) := by decide +kernel
theorem dX9_swapCuts_0 : decode cX9_swapCuts 0 = .ok (.iconst 0, 1) := by decide +kernel
theorem dX9_swapCuts_1 : decode cX9_swapCuts 1 = .ok (.istore_n 3, 1) := by decide +kernel
theorem dX9_swapCuts_2 : decode cX9_swapCuts 2 = .ok (.iload_n 3, 1) := by decide +kernel
theorem dX9_swapCuts_3 : decode cX9_swapCuts 3 = .ok (.bipush 6, 2) := by decide +kernel
theorem dX9_swapCuts_5 : decode cX9_swapCuts 5 = .ok (.if_icmp .ge 57, 3) := by decide +kernel
theorem dX9_swapCuts_8 : decode cX9_swapCuts 8 = .ok (.aload_n 0, 1) := by decide +kernel
theorem dX9_swapCuts_9 : decode cX9_swapCuts 9 = .ok (.getfield 44, 3) := by decide +kernel
theorem dX9_swapCuts_12 : decode cX9_swapCuts 12 = .ok (.bipush 6, 2) := by decide +kernel
theorem dX9_swapCuts_14 : decode cX9_swapCuts 14 = .ok (.iload_n 1, 1) := by decide +kernel
theorem dX9_swapCuts_15 : decode cX9_swapCuts 15 = .ok (.imul, 1) := by decide +kernel
theorem dX9_swapCuts_16 : decode cX9_swapCuts 16 = .ok (.iload_n 3, 1) := by decide +kernel
theorem dX9_swapCuts_17 : decode cX9_swapCuts 17 = .ok (.iadd, 1) := by decide +kernel
theorem dX9_swapCuts_18 : decode cX9_swapCuts 18 = .ok (.iaload, 1) := by decide +kernel
theorem dX9_swapCuts_19 : decode cX9_swapCuts 19 = .ok (.istore 4, 2) := by decide +kernel
theorem dX9_swapCuts_21 : decode cX9_swapCuts 21 = .ok (.aload_n 0, 1) := by decide +kernel
theorem dX9_swapCuts_22 : decode cX9_swapCuts 22 = .ok (.getfield 44, 3) := by decide +kernel
theorem dX9_swapCuts_25 : decode cX9_swapCuts 25 = .ok (.bipush 6, 2) := by decide +kernel
theorem dX9_swapCuts_27 : decode cX9_swapCuts 27 = .ok (.iload_n 1, 1) := by decide +kernel
theorem dX9_swapCuts_28 : decode cX9_swapCuts 28 = .ok (.imul, 1) := by decide +kernel
theorem dX9_swapCuts_29 : decode cX9_swapCuts 29 = .ok (.iload_n 3, 1) := by decide +kernel
theorem dX9_swapCuts_30 : decode cX9_swapCuts 30 = .ok (.iadd, 1) := by decide +kernel
theorem dX9_swapCuts_31 : decode cX9_swapCuts 31 = .ok (.aload_n 0, 1) := by decide +kernel
theorem dX9_swapCuts_32 : decode cX9_swapCuts 32 = .ok (.getfield 44, 3) := by decide +kernel
theorem dX9_swapCuts_35 : decode cX9_swapCuts 35 = .ok (.bipush 6, 2) := by decide +kernel
theorem dX9_swapCuts_37 : decode cX9_swapCuts 37 = .ok (.iload_n 2, 1) := by decide +kernel
theorem dX9_swapCuts_38 : decode cX9_swapCuts 38 = .ok (.imul, 1) := by decide +kernel
theorem dX9_swapCuts_39 : decode cX9_swapCuts 39 = .ok (.iload_n 3, 1) := by decide +kernel
theorem dX9_swapCuts_40 : decode cX9_swapCuts 40 = .ok (.iadd, 1) := by decide +kernel
theorem dX9_swapCuts_41 : decode cX9_swapCuts 41 = .ok (.iaload, 1) := by decide +kernel
theorem dX9_swapCuts_42 : decode cX9_swapCuts 42 = .ok (.iastore, 1) := by decide +kernel
theorem dX9_swapCuts_43 : decode cX9_swapCuts 43 = .ok (.aload_n 0, 1) := by decide +kernel
theorem dX9_swapCuts_44 : decode cX9_swapCuts 44 = .ok (.getfield 44, 3) := by decide +kernel
theorem dX9_swapCuts_47 : decode cX9_swapCuts 47 = .ok (.bipush 6, 2) := by decide +kernel
theorem dX9_swapCuts_49 : decode cX9_swapCuts 49 = .ok (.iload_n 2, 1) := by decide +kernel
theorem dX9_swapCuts_50 : decode cX9_swapCuts 50 = .ok (.imul, 1) := by decide +kernel
theorem dX9_swapCuts_51 : decode cX9_swapCuts 51 = .ok (.iload_n 3, 1) := by decide +kernel
theorem dX9_swapCuts_52 : decode cX9_swapCuts 52 = .ok (.iadd, 1) := by decide +kernel
theorem dX9_swapCuts_53 : decode cX9_swapCuts 53 = .ok (.iload 4, 2) := by decide +kernel
theorem dX9_swapCuts_55 : decode cX9_swapCuts 55 = .ok (.iastore, 1) := by decide +kernel
theorem dX9_swapCuts_56 : decode cX9_swapCuts 56 = .ok (.iinc 3 1, 3) := by decide +kernel
theorem dX9_swapCuts_59 : decode cX9_swapCuts 59 = .ok (.goto (-57), 3) := by decide +kernel
theorem dX9_swapCuts_62 : decode cX9_swapCuts 62 = .ok (.return_, 1) := by decide +kernel
theorem dX9_areChanged_0 : decode cX9_areChanged 0 = .ok (.aload_n 0, 1) := by decide +kernel
theorem dX9_areChanged_1 : decode cX9_areChanged 1 = .ok (.aload_n 0, 1) := by decide +kernel
theorem dX9_areChanged_2 : decode cX9_areChanged 2 = .ok (.iload_n 1, 1) := by decide +kernel
theorem dX9_areChanged_3 : decode cX9_areChanged 3 = .ok (.invokevirtual 305, 3) := by decide +kernel
theorem dX9_areChanged_6 : decode cX9_areChanged 6 = .ok (.invokevirtual 362, 3) := by decide +kernel
theorem dX9_areChanged_9 : decode cX9_areChanged 9 = .ok (.aload_n 0, 1) := by decide +kernel
theorem dX9_areChanged_10 : decode cX9_areChanged 10 = .ok (.aload_n 0, 1) := by decide +kernel
theorem dX9_areChanged_11 : decode cX9_areChanged 11 = .ok (.iload_n 2, 1) := by decide +kernel
theorem dX9_areChanged_12 : decode cX9_areChanged 12 = .ok (.invokevirtual 305, 3) := by decide +kernel
theorem dX9_areChanged_15 : decode cX9_areChanged 15 = .ok (.invokevirtual 362, 3) := by decide +kernel
theorem dX9_areChanged_18 : decode cX9_areChanged 18 = .ok (.iadd, 1) := by decide +kernel
theorem dX9_areChanged_19 : decode cX9_areChanged 19 = .ok (.istore_n 3, 1) := by decide +kernel
theorem dX9_areChanged_20 : decode cX9_areChanged 20 = .ok (.aload_n 0, 1) := by decide +kernel
theorem dX9_areChanged_21 : decode cX9_areChanged 21 = .ok (.iload_n 1, 1) := by decide +kernel
theorem dX9_areChanged_22 : decode cX9_areChanged 22 = .ok (.iload_n 2, 1) := by decide +kernel
theorem dX9_areChanged_23 : decode cX9_areChanged 23 = .ok (.invokevirtual 365, 3) := by decide +kernel
theorem dX9_areChanged_26 : decode cX9_areChanged 26 = .ok (.aload_n 0, 1) := by decide +kernel
theorem dX9_areChanged_27 : decode cX9_areChanged 27 = .ok (.aload_n 0, 1) := by decide +kernel
theorem dX9_areChanged_28 : decode cX9_areChanged 28 = .ok (.iload_n 1, 1) := by decide +kernel
theorem dX9_areChanged_29 : decode cX9_areChanged 29 = .ok (.invokevirtual 305, 3) := by decide +kernel
theorem dX9_areChanged_32 : decode cX9_areChanged 32 = .ok (.invokevirtual 362, 3) := by decide +kernel
theorem dX9_areChanged_35 : decode cX9_areChanged 35 = .ok (.aload_n 0, 1) := by decide +kernel
theorem dX9_areChanged_36 : decode cX9_areChanged 36 = .ok (.aload_n 0, 1) := by decide +kernel
theorem dX9_areChanged_37 : decode cX9_areChanged 37 = .ok (.iload_n 2, 1) := by decide +kernel
theorem dX9_areChanged_38 : decode cX9_areChanged 38 = .ok (.invokevirtual 305, 3) := by decide +kernel
theorem dX9_areChanged_41 : decode cX9_areChanged 41 = .ok (.invokevirtual 362, 3) := by decide +kernel
theorem dX9_areChanged_44 : decode cX9_areChanged 44 = .ok (.iadd, 1) := by decide +kernel
theorem dX9_areChanged_45 : decode cX9_areChanged 45 = .ok (.istore 4, 2) := by decide +kernel
theorem dX9_areChanged_47 : decode cX9_areChanged 47 = .ok (.aload_n 0, 1) := by decide +kernel
theorem dX9_areChanged_48 : decode cX9_areChanged 48 = .ok (.iload_n 1, 1) := by decide +kernel
theorem dX9_areChanged_49 : decode cX9_areChanged 49 = .ok (.iload_n 2, 1) := by decide +kernel
theorem dX9_areChanged_50 : decode cX9_areChanged 50 = .ok (.invokevirtual 365, 3) := by decide +kernel
theorem dX9_areChanged_53 : decode cX9_areChanged 53 = .ok (.iload 4, 2) := by decide +kernel
theorem dX9_areChanged_55 : decode cX9_areChanged 55 = .ok (.iload_n 3, 1) := by decide +kernel
theorem dX9_areChanged_56 : decode cX9_areChanged 56 = .ok (.if_icmp .ge 7, 3) := by decide +kernel
theorem dX9_areChanged_59 : decode cX9_areChanged 59 = .ok (.iconst 1, 1) := by decide +kernel
theorem dX9_areChanged_60 : decode cX9_areChanged 60 = .ok (.goto 4, 3) := by decide +kernel
theorem dX9_areChanged_63 : decode cX9_areChanged 63 = .ok (.iconst 0, 1) := by decide +kernel
theorem dX9_areChanged_64 : decode cX9_areChanged 64 = .ok (.ireturn, 1) := by decide +kernel
theorem dX9_changed_0 : decode cX9_changed 0 = .ok (.aload_n 0, 1) := by decide +kernel
theorem dX9_changed_1 : decode cX9_changed 1 = .ok (.iload_n 1, 1) := by decide +kernel
theorem dX9_changed_2 : decode cX9_changed 2 = .ok (.iconst 0, 1) := by decide +kernel
theorem dX9_changed_3 : decode cX9_changed 3 = .ok (.iconst 1, 1) := by decide +kernel
theorem dX9_changed_4 : decode cX9_changed 4 = .ok (.invokevirtual 203, 3) := by decide +kernel
theorem dX9_changed_7 : decode cX9_changed 7 = .ok (.ifCond .ne 5, 3) := by decide +kernel
theorem dX9_changed_10 : decode cX9_changed 10 = .ok (.iconst (-1), 1) := by decide +kernel
theorem dX9_changed_11 : decode cX9_changed 11 = .ok (.ireturn, 1) := by decide +kernel
theorem dX9_changed_12 : decode cX9_changed 12 = .ok (.iconst 0, 1) := by decide +kernel
theorem dX9_changed_13 : decode cX9_changed 13 = .ok (.istore_n 2, 1) := by decide +kernel
theorem dX9_changed_14 : decode cX9_changed 14 = .ok (.bipush (-5), 2) := by decide +kernel
theorem dX9_changed_16 : decode cX9_changed 16 = .ok (.istore_n 3, 1) := by decide +kernel
theorem dX9_changed_17 : decode cX9_changed 17 = .ok (.iconst 0, 1) := by decide +kernel
theorem dX9_changed_18 : decode cX9_changed 18 = .ok (.istore 4, 2) := by decide +kernel
theorem dX9_changed_20 : decode cX9_changed 20 = .ok (.iload 4, 2) := by decide +kernel
theorem dX9_changed_22 : decode cX9_changed 22 = .ok (.aload_n 0, 1) := by decide +kernel
theorem dX9_changed_23 : decode cX9_changed 23 = .ok (.getfield 13, 3) := by decide +kernel
theorem dX9_changed_26 : decode cX9_changed 26 = .ok (.if_icmp .ge 60, 3) := by decide +kernel
theorem dX9_changed_29 : decode cX9_changed 29 = .ok (.iload 4, 2) := by decide +kernel
theorem dX9_changed_31 : decode cX9_changed 31 = .ok (.iconst 1, 1) := by decide +kernel
theorem dX9_changed_32 : decode cX9_changed 32 = .ok (.iadd, 1) := by decide +kernel
theorem dX9_changed_33 : decode cX9_changed 33 = .ok (.istore 5, 2) := by decide +kernel
theorem dX9_changed_35 : decode cX9_changed 35 = .ok (.iload 5, 2) := by decide +kernel
theorem dX9_changed_37 : decode cX9_changed 37 = .ok (.aload_n 0, 1) := by decide +kernel
theorem dX9_changed_38 : decode cX9_changed 38 = .ok (.getfield 13, 3) := by decide +kernel
theorem dX9_changed_41 : decode cX9_changed 41 = .ok (.if_icmp .ge 39, 3) := by decide +kernel
theorem dX9_changed_44 : decode cX9_changed 44 = .ok (.aload_n 0, 1) := by decide +kernel
theorem dX9_changed_45 : decode cX9_changed 45 = .ok (.iload 4, 2) := by decide +kernel
theorem dX9_changed_47 : decode cX9_changed 47 = .ok (.iload 5, 2) := by decide +kernel
theorem dX9_changed_49 : decode cX9_changed 49 = .ok (.invokevirtual 369, 3) := by decide +kernel
theorem dX9_changed_52 : decode cX9_changed 52 = .ok (.ifCond .ne 6, 3) := by decide +kernel
theorem dX9_changed_55 : decode cX9_changed 55 = .ok (.goto 19, 3) := by decide +kernel
theorem dX9_changed_58 : decode cX9_changed 58 = .ok (.iload_n 2, 1) := by decide +kernel
theorem dX9_changed_59 : decode cX9_changed 59 = .ok (.ifCond .ne 12, 3) := by decide +kernel
theorem dX9_changed_62 : decode cX9_changed 62 = .ok (.bipush 10, 2) := by decide +kernel
theorem dX9_changed_64 : decode cX9_changed 64 = .ok (.iload 4, 2) := by decide +kernel
theorem dX9_changed_66 : decode cX9_changed 66 = .ok (.imul, 1) := by decide +kernel
theorem dX9_changed_67 : decode cX9_changed 67 = .ok (.iload 5, 2) := by decide +kernel
theorem dX9_changed_69 : decode cX9_changed 69 = .ok (.iadd, 1) := by decide +kernel
theorem dX9_changed_70 : decode cX9_changed 70 = .ok (.istore_n 3, 1) := by decide +kernel
theorem dX9_changed_71 : decode cX9_changed 71 = .ok (.iinc 2 1, 3) := by decide +kernel
theorem dX9_changed_74 : decode cX9_changed 74 = .ok (.iinc 5 1, 3) := by decide +kernel
theorem dX9_changed_77 : decode cX9_changed 77 = .ok (.goto (-42), 3) := by decide +kernel
theorem dX9_changed_80 : decode cX9_changed 80 = .ok (.iinc 4 1, 3) := by decide +kernel
theorem dX9_changed_83 : decode cX9_changed 83 = .ok (.goto (-63), 3) := by decide +kernel
theorem dX9_changed_86 : decode cX9_changed 86 = .ok (.iload_n 1, 1) := by decide +kernel
theorem dX9_changed_87 : decode cX9_changed 87 = .ok (.ifCond .ne 7, 3) := by decide +kernel
theorem dX9_changed_90 : decode cX9_changed 90 = .ok (.iload_n 2, 1) := by decide +kernel
theorem dX9_changed_91 : decode cX9_changed 91 = .ok (.goto 4, 3) := by decide +kernel
theorem dX9_changed_94 : decode cX9_changed 94 = .ok (.iload_n 3, 1) := by decide +kernel
theorem dX9_changed_95 : decode cX9_changed 95 = .ok (.ireturn, 1) := by decide +kernel
theorem dX9_book_0 : decode cX9_book 0 = .ok (.iload_n 1, 1) := by decide +kernel
theorem dX9_book_1 : decode cX9_book 1 = .ok (.iconst (-1), 1) := by decide +kernel
theorem dX9_book_2 : decode cX9_book 2 = .ok (.if_icmp .ne 10, 3) := by decide +kernel
theorem dX9_book_5 : decode cX9_book 5 = .ok (.aload_n 0, 1) := by decide +kernel
theorem dX9_book_6 : decode cX9_book 6 = .ok (.iconst 0, 1) := by decide +kernel
theorem dX9_book_7 : decode cX9_book 7 = .ok (.putfield 123, 3) := by decide +kernel
theorem dX9_book_10 : decode cX9_book 10 = .ok (.iconst 0, 1) := by decide +kernel
theorem dX9_book_11 : decode cX9_book 11 = .ok (.ireturn, 1) := by decide +kernel
theorem dX9_book_12 : decode cX9_book 12 = .ok (.aload_n 0, 1) := by decide +kernel
theorem dX9_book_13 : decode cX9_book 13 = .ok (.iload_n 1, 1) := by decide +kernel
theorem dX9_book_14 : decode cX9_book 14 = .ok (.invokevirtual 321, 3) := by decide +kernel
theorem dX9_book_17 : decode cX9_book 17 = .ok (.ifCond .ne 5, 3) := by decide +kernel
theorem dX9_book_20 : decode cX9_book 20 = .ok (.iconst (-1), 1) := by decide +kernel
theorem dX9_book_21 : decode cX9_book 21 = .ok (.ireturn, 1) := by decide +kernel
theorem dX9_book_22 : decode cX9_book 22 = .ok (.aload_n 0, 1) := by decide +kernel
theorem dX9_book_23 : decode cX9_book 23 = .ok (.iload_n 2, 1) := by decide +kernel
theorem dX9_book_24 : decode cX9_book 24 = .ok (.bipush (-99), 2) := by decide +kernel
theorem dX9_book_26 : decode cX9_book 26 = .ok (.bipush 99, 2) := by decide +kernel
theorem dX9_book_28 : decode cX9_book 28 = .ok (.invokevirtual 203, 3) := by decide +kernel
theorem dX9_book_31 : decode cX9_book 31 = .ok (.ifCond .ne 6, 3) := by decide +kernel
theorem dX9_book_34 : decode cX9_book 34 = .ok (.bipush (-2), 2) := by decide +kernel
theorem dX9_book_36 : decode cX9_book 36 = .ok (.ireturn, 1) := by decide +kernel
theorem dX9_book_37 : decode cX9_book 37 = .ok (.aload_n 0, 1) := by decide +kernel
theorem dX9_book_38 : decode cX9_book 38 = .ok (.getfield 123, 3) := by decide +kernel
theorem dX9_book_41 : decode cX9_book 41 = .ok (.bipush 12, 2) := by decide +kernel
theorem dX9_book_43 : decode cX9_book 43 = .ok (.if_icmp .ne 6, 3) := by decide +kernel
theorem dX9_book_46 : decode cX9_book 46 = .ok (.bipush (-4), 2) := by decide +kernel
theorem dX9_book_48 : decode cX9_book 48 = .ok (.ireturn, 1) := by decide +kernel
theorem dX9_book_49 : decode cX9_book 49 = .ok (.aload_n 0, 1) := by decide +kernel
theorem dX9_book_50 : decode cX9_book 50 = .ok (.getfield 126, 3) := by decide +kernel
theorem dX9_book_53 : decode cX9_book 53 = .ok (.aload_n 0, 1) := by decide +kernel
theorem dX9_book_54 : decode cX9_book 54 = .ok (.getfield 123, 3) := by decide +kernel
theorem dX9_book_57 : decode cX9_book 57 = .ok (.iload_n 1, 1) := by decide +kernel
theorem dX9_book_58 : decode cX9_book 58 = .ok (.iastore, 1) := by decide +kernel
theorem dX9_book_59 : decode cX9_book 59 = .ok (.aload_n 0, 1) := by decide +kernel
theorem dX9_book_60 : decode cX9_book 60 = .ok (.getfield 129, 3) := by decide +kernel
theorem dX9_book_63 : decode cX9_book 63 = .ok (.aload_n 0, 1) := by decide +kernel
theorem dX9_book_64 : decode cX9_book 64 = .ok (.getfield 123, 3) := by decide +kernel
theorem dX9_book_67 : decode cX9_book 67 = .ok (.iload_n 2, 1) := by decide +kernel
theorem dX9_book_68 : decode cX9_book 68 = .ok (.iastore, 1) := by decide +kernel
theorem dX9_book_69 : decode cX9_book 69 = .ok (.aload_n 0, 1) := by decide +kernel
theorem dX9_book_70 : decode cX9_book 70 = .ok (.dup, 1) := by decide +kernel
theorem dX9_book_71 : decode cX9_book 71 = .ok (.getfield 123, 3) := by decide +kernel
theorem dX9_book_74 : decode cX9_book 74 = .ok (.iconst 1, 1) := by decide +kernel
theorem dX9_book_75 : decode cX9_book 75 = .ok (.iadd, 1) := by decide +kernel
theorem dX9_book_76 : decode cX9_book 76 = .ok (.putfield 123, 3) := by decide +kernel
theorem dX9_book_79 : decode cX9_book 79 = .ok (.aload_n 0, 1) := by decide +kernel
theorem dX9_book_80 : decode cX9_book 80 = .ok (.getfield 123, 3) := by decide +kernel
theorem dX9_book_83 : decode cX9_book 83 = .ok (.ireturn, 1) := by decide +kernel
theorem dX9_looked_0 : decode cX9_looked 0 = .ok (.aload_n 0, 1) := by decide +kernel
theorem dX9_looked_1 : decode cX9_looked 1 = .ok (.iload_n 1, 1) := by decide +kernel
theorem dX9_looked_2 : decode cX9_looked 2 = .ok (.invokevirtual 207, 3) := by decide +kernel
theorem dX9_looked_5 : decode cX9_looked 5 = .ok (.ifCond .ne 5, 3) := by decide +kernel
theorem dX9_looked_8 : decode cX9_looked 8 = .ok (.iconst (-1), 1) := by decide +kernel
theorem dX9_looked_9 : decode cX9_looked 9 = .ok (.ireturn, 1) := by decide +kernel
theorem dX9_looked_10 : decode cX9_looked 10 = .ok (.aload_n 0, 1) := by decide +kernel
theorem dX9_looked_11 : decode cX9_looked 11 = .ok (.iload_n 2, 1) := by decide +kernel
theorem dX9_looked_12 : decode cX9_looked 12 = .ok (.iconst 0, 1) := by decide +kernel
theorem dX9_looked_13 : decode cX9_looked 13 = .ok (.bipush 9, 2) := by decide +kernel
theorem dX9_looked_15 : decode cX9_looked 15 = .ok (.invokevirtual 203, 3) := by decide +kernel
theorem dX9_looked_18 : decode cX9_looked 18 = .ok (.ifCond .ne 6, 3) := by decide +kernel
theorem dX9_looked_21 : decode cX9_looked 21 = .ok (.bipush (-2), 2) := by decide +kernel
theorem dX9_looked_23 : decode cX9_looked 23 = .ok (.ireturn, 1) := by decide +kernel
theorem dX9_looked_24 : decode cX9_looked 24 = .ok (.aload_n 0, 1) := by decide +kernel
theorem dX9_looked_25 : decode cX9_looked 25 = .ok (.invokevirtual 337, 3) := by decide +kernel
theorem dX9_looked_28 : decode cX9_looked 28 = .ok (.bipush (-5), 2) := by decide +kernel
theorem dX9_looked_30 : decode cX9_looked 30 = .ok (.istore_n 3, 1) := by decide +kernel
theorem dX9_looked_31 : decode cX9_looked 31 = .ok (.iconst 0, 1) := by decide +kernel
theorem dX9_looked_32 : decode cX9_looked 32 = .ok (.istore 4, 2) := by decide +kernel
theorem dX9_looked_34 : decode cX9_looked 34 = .ok (.iload 4, 2) := by decide +kernel
theorem dX9_looked_36 : decode cX9_looked 36 = .ok (.aload_n 0, 1) := by decide +kernel
theorem dX9_looked_37 : decode cX9_looked 37 = .ok (.getfield 123, 3) := by decide +kernel
theorem dX9_looked_40 : decode cX9_looked 40 = .ok (.if_icmp .ge 60, 3) := by decide +kernel
theorem dX9_looked_43 : decode cX9_looked 43 = .ok (.iload_n 3, 1) := by decide +kernel
theorem dX9_looked_44 : decode cX9_looked 44 = .ok (.ifCond .ge 56, 3) := by decide +kernel
theorem dX9_looked_47 : decode cX9_looked 47 = .ok (.iload 4, 2) := by decide +kernel
theorem dX9_looked_49 : decode cX9_looked 49 = .ok (.ifCond .le 7, 3) := by decide +kernel
theorem dX9_looked_52 : decode cX9_looked 52 = .ok (.aload_n 0, 1) := by decide +kernel
theorem dX9_looked_53 : decode cX9_looked 53 = .ok (.invokevirtual 318, 3) := by decide +kernel
theorem dX9_looked_56 : decode cX9_looked 56 = .ok (.aload_n 0, 1) := by decide +kernel
theorem dX9_looked_57 : decode cX9_looked 57 = .ok (.aload_n 0, 1) := by decide +kernel
theorem dX9_looked_58 : decode cX9_looked 58 = .ok (.iload_n 1, 1) := by decide +kernel
theorem dX9_looked_59 : decode cX9_looked 59 = .ok (.aload_n 0, 1) := by decide +kernel
theorem dX9_looked_60 : decode cX9_looked 60 = .ok (.getfield 126, 3) := by decide +kernel
theorem dX9_looked_63 : decode cX9_looked 63 = .ok (.iload 4, 2) := by decide +kernel
theorem dX9_looked_65 : decode cX9_looked 65 = .ok (.iaload, 1) := by decide +kernel
theorem dX9_looked_66 : decode cX9_looked 66 = .ok (.invokevirtual 299, 3) := by decide +kernel
theorem dX9_looked_69 : decode cX9_looked 69 = .ok (.aload_n 0, 1) := by decide +kernel
theorem dX9_looked_70 : decode cX9_looked 70 = .ok (.getfield 129, 3) := by decide +kernel
theorem dX9_looked_73 : decode cX9_looked 73 = .ok (.iload 4, 2) := by decide +kernel
theorem dX9_looked_75 : decode cX9_looked 75 = .ok (.iaload, 1) := by decide +kernel
theorem dX9_looked_76 : decode cX9_looked 76 = .ok (.isub, 1) := by decide +kernel
theorem dX9_looked_77 : decode cX9_looked 77 = .ok (.iload_n 2, 1) := by decide +kernel
theorem dX9_looked_78 : decode cX9_looked 78 = .ok (.ineg, 1) := by decide +kernel
theorem dX9_looked_79 : decode cX9_looked 79 = .ok (.iload_n 2, 1) := by decide +kernel
theorem dX9_looked_80 : decode cX9_looked 80 = .ok (.invokevirtual 203, 3) := by decide +kernel
theorem dX9_looked_83 : decode cX9_looked 83 = .ok (.ifCond .eq 8, 3) := by decide +kernel
theorem dX9_looked_86 : decode cX9_looked 86 = .ok (.bipush (-5), 2) := by decide +kernel
theorem dX9_looked_88 : decode cX9_looked 88 = .ok (.goto 5, 3) := by decide +kernel
theorem dX9_looked_91 : decode cX9_looked 91 = .ok (.iload 4, 2) := by decide +kernel
theorem dX9_looked_93 : decode cX9_looked 93 = .ok (.istore_n 3, 1) := by decide +kernel
theorem dX9_looked_94 : decode cX9_looked 94 = .ok (.iinc 4 1, 3) := by decide +kernel
theorem dX9_looked_97 : decode cX9_looked 97 = .ok (.goto (-63), 3) := by decide +kernel
theorem dX9_looked_100 : decode cX9_looked 100 = .ok (.aload_n 0, 1) := by decide +kernel
theorem dX9_looked_101 : decode cX9_looked 101 = .ok (.invokevirtual 340, 3) := by decide +kernel
theorem dX9_looked_104 : decode cX9_looked 104 = .ok (.iload_n 3, 1) := by decide +kernel
theorem dX9_looked_105 : decode cX9_looked 105 = .ok (.ireturn, 1) := by decide +kernel
theorem dX9_judge_0 : decode cX9_judge 0 = .ok (.aload_n 0, 1) := by decide +kernel
theorem dX9_judge_1 : decode cX9_judge 1 = .ok (.iload_n 1, 1) := by decide +kernel
theorem dX9_judge_2 : decode cX9_judge 2 = .ok (.invokevirtual 372, 3) := by decide +kernel
theorem dX9_judge_5 : decode cX9_judge 5 = .ok (.ifCond .eq 11, 3) := by decide +kernel
theorem dX9_judge_8 : decode cX9_judge 8 = .ok (.aload_n 0, 1) := by decide +kernel
theorem dX9_judge_9 : decode cX9_judge 9 = .ok (.iload_n 3, 1) := by decide +kernel
theorem dX9_judge_10 : decode cX9_judge 10 = .ok (.invokevirtual 207, 3) := by decide +kernel
theorem dX9_judge_13 : decode cX9_judge 13 = .ok (.ifCond .ne 5, 3) := by decide +kernel
theorem dX9_judge_16 : decode cX9_judge 16 = .ok (.iconst (-1), 1) := by decide +kernel
theorem dX9_judge_17 : decode cX9_judge 17 = .ok (.ireturn, 1) := by decide +kernel
theorem dX9_judge_18 : decode cX9_judge 18 = .ok (.aload_n 0, 1) := by decide +kernel
theorem dX9_judge_19 : decode cX9_judge 19 = .ok (.getfield 190, 3) := by decide +kernel
theorem dX9_judge_22 : decode cX9_judge 22 = .ok (.iload_n 1, 1) := by decide +kernel
theorem dX9_judge_23 : decode cX9_judge 23 = .ok (.iaload, 1) := by decide +kernel
theorem dX9_judge_24 : decode cX9_judge 24 = .ok (.ifCond .lt 16, 3) := by decide +kernel
theorem dX9_judge_27 : decode cX9_judge 27 = .ok (.aload_n 0, 1) := by decide +kernel
theorem dX9_judge_28 : decode cX9_judge 28 = .ok (.getfield 190, 3) := by decide +kernel
theorem dX9_judge_31 : decode cX9_judge 31 = .ok (.iload_n 1, 1) := by decide +kernel
theorem dX9_judge_32 : decode cX9_judge 32 = .ok (.iaload, 1) := by decide +kernel
theorem dX9_judge_33 : decode cX9_judge 33 = .ok (.iconst 1, 1) := by decide +kernel
theorem dX9_judge_34 : decode cX9_judge 34 = .ok (.if_icmp .eq 6, 3) := by decide +kernel
theorem dX9_judge_37 : decode cX9_judge 37 = .ok (.bipush (-12), 2) := by decide +kernel
theorem dX9_judge_39 : decode cX9_judge 39 = .ok (.ireturn, 1) := by decide +kernel
theorem dX9_judge_40 : decode cX9_judge 40 = .ok (.iconst 0, 1) := by decide +kernel
theorem dX9_judge_41 : decode cX9_judge 41 = .ok (.istore 4, 2) := by decide +kernel
theorem dX9_judge_43 : decode cX9_judge 43 = .ok (.iload 4, 2) := by decide +kernel
theorem dX9_judge_45 : decode cX9_judge 45 = .ok (.bipush 6, 2) := by decide +kernel
theorem dX9_judge_47 : decode cX9_judge 47 = .ok (.if_icmp .ge 72, 3) := by decide +kernel
theorem dX9_judge_50 : decode cX9_judge 50 = .ok (.aload_n 0, 1) := by decide +kernel
theorem dX9_judge_51 : decode cX9_judge 51 = .ok (.getfield 190, 3) := by decide +kernel
theorem dX9_judge_54 : decode cX9_judge 54 = .ok (.iload_n 1, 1) := by decide +kernel
theorem dX9_judge_55 : decode cX9_judge 55 = .ok (.iaload, 1) := by decide +kernel
theorem dX9_judge_56 : decode cX9_judge 56 = .ok (.ifCond .lt 22, 3) := by decide +kernel
theorem dX9_judge_59 : decode cX9_judge 59 = .ok (.iload_n 2, 1) := by decide +kernel
theorem dX9_judge_60 : decode cX9_judge 60 = .ok (.ifCond .lt 18, 3) := by decide +kernel
theorem dX9_judge_63 : decode cX9_judge 63 = .ok (.iload_n 2, 1) := by decide +kernel
theorem dX9_judge_64 : decode cX9_judge 64 = .ok (.aload_n 0, 1) := by decide +kernel
theorem dX9_judge_65 : decode cX9_judge 65 = .ok (.getfield 193, 3) := by decide +kernel
theorem dX9_judge_68 : decode cX9_judge 68 = .ok (.iload_n 1, 1) := by decide +kernel
theorem dX9_judge_69 : decode cX9_judge 69 = .ok (.iaload, 1) := by decide +kernel
theorem dX9_judge_70 : decode cX9_judge 70 = .ok (.iload 4, 2) := by decide +kernel
theorem dX9_judge_72 : decode cX9_judge 72 = .ok (.isub, 1) := by decide +kernel
theorem dX9_judge_73 : decode cX9_judge 73 = .ok (.iconst 1, 1) := by decide +kernel
theorem dX9_judge_74 : decode cX9_judge 74 = .ok (.isub, 1) := by decide +kernel
theorem dX9_judge_75 : decode cX9_judge 75 = .ok (.if_icmp .le 9, 3) := by decide +kernel
theorem dX9_judge_78 : decode cX9_judge 78 = .ok (.bipush 100, 2) := by decide +kernel
theorem dX9_judge_80 : decode cX9_judge 80 = .ok (.iload 4, 2) := by decide +kernel
theorem dX9_judge_82 : decode cX9_judge 82 = .ok (.iadd, 1) := by decide +kernel
theorem dX9_judge_83 : decode cX9_judge 83 = .ok (.ireturn, 1) := by decide +kernel
theorem dX9_judge_84 : decode cX9_judge 84 = .ok (.aload_n 0, 1) := by decide +kernel
theorem dX9_judge_85 : decode cX9_judge 85 = .ok (.getfield 196, 3) := by decide +kernel
theorem dX9_judge_88 : decode cX9_judge 88 = .ok (.bipush 60, 2) := by decide +kernel
theorem dX9_judge_90 : decode cX9_judge 90 = .ok (.iload_n 1, 1) := by decide +kernel
theorem dX9_judge_91 : decode cX9_judge 91 = .ok (.imul, 1) := by decide +kernel
theorem dX9_judge_92 : decode cX9_judge 92 = .ok (.iload_n 2, 1) := by decide +kernel
theorem dX9_judge_93 : decode cX9_judge 93 = .ok (.iadd, 1) := by decide +kernel
theorem dX9_judge_94 : decode cX9_judge 94 = .ok (.iload 4, 2) := by decide +kernel
theorem dX9_judge_96 : decode cX9_judge 96 = .ok (.iadd, 1) := by decide +kernel
theorem dX9_judge_97 : decode cX9_judge 97 = .ok (.laload, 1) := by decide +kernel
theorem dX9_judge_98 : decode cX9_judge 98 = .ok (.aload_n 0, 1) := by decide +kernel
theorem dX9_judge_99 : decode cX9_judge 99 = .ok (.iload_n 3, 1) := by decide +kernel
theorem dX9_judge_100 : decode cX9_judge 100 = .ok (.iload 4, 2) := by decide +kernel
theorem dX9_judge_102 : decode cX9_judge 102 = .ok (.invokevirtual 299, 3) := by decide +kernel
theorem dX9_judge_105 : decode cX9_judge 105 = .ok (.i2l, 1) := by decide +kernel
theorem dX9_judge_106 : decode cX9_judge 106 = .ok (.lcmp, 1) := by decide +kernel
theorem dX9_judge_107 : decode cX9_judge 107 = .ok (.ifCond .eq 6, 3) := by decide +kernel
theorem dX9_judge_110 : decode cX9_judge 110 = .ok (.iload 4, 2) := by decide +kernel
theorem dX9_judge_112 : decode cX9_judge 112 = .ok (.ireturn, 1) := by decide +kernel
theorem dX9_judge_113 : decode cX9_judge 113 = .ok (.iinc 4 1, 3) := by decide +kernel
theorem dX9_judge_116 : decode cX9_judge 116 = .ok (.goto (-73), 3) := by decide +kernel
theorem dX9_judge_119 : decode cX9_judge 119 = .ok (.bipush (-5), 2) := by decide +kernel
theorem dX9_judge_121 : decode cX9_judge 121 = .ok (.ireturn, 1) := by decide +kernel
theorem dX9_image_0 : decode cX9_image 0 = .ok (.aload_n 0, 1) := by decide +kernel
theorem dX9_image_1 : decode cX9_image 1 = .ok (.iconst 1, 1) := by decide +kernel
theorem dX9_image_2 : decode cX9_image 2 = .ok (.putfield 132, 3) := by decide +kernel
theorem dX9_image_5 : decode cX9_image 5 = .ok (.aload_n 0, 1) := by decide +kernel
theorem dX9_image_6 : decode cX9_image 6 = .ok (.aload_n 0, 1) := by decide +kernel
theorem dX9_image_7 : decode cX9_image 7 = .ok (.getfield 50, 3) := by decide +kernel
theorem dX9_image_10 : decode cX9_image 10 = .ok (.putfield 136, 3) := by decide +kernel
theorem dX9_image_13 : decode cX9_image 13 = .ok (.aload_n 0, 1) := by decide +kernel
theorem dX9_image_14 : decode cX9_image 14 = .ok (.aload_n 0, 1) := by decide +kernel
theorem dX9_image_15 : decode cX9_image 15 = .ok (.getfield 13, 3) := by decide +kernel
theorem dX9_image_18 : decode cX9_image 18 = .ok (.putfield 139, 3) := by decide +kernel
theorem dX9_image_21 : decode cX9_image 21 = .ok (.aload_n 0, 1) := by decide +kernel
theorem dX9_image_22 : decode cX9_image 22 = .ok (.aload_n 0, 1) := by decide +kernel
theorem dX9_image_23 : decode cX9_image 23 = .ok (.getfield 17, 3) := by decide +kernel
theorem dX9_image_26 : decode cX9_image 26 = .ok (.putfield 142, 3) := by decide +kernel
theorem dX9_image_29 : decode cX9_image 29 = .ok (.aload_n 0, 1) := by decide +kernel
theorem dX9_image_30 : decode cX9_image 30 = .ok (.aload_n 0, 1) := by decide +kernel
theorem dX9_image_31 : decode cX9_image 31 = .ok (.getfield 20, 3) := by decide +kernel
theorem dX9_image_34 : decode cX9_image 34 = .ok (.putfield 145, 3) := by decide +kernel
theorem dX9_image_37 : decode cX9_image 37 = .ok (.aload_n 0, 1) := by decide +kernel
theorem dX9_image_38 : decode cX9_image 38 = .ok (.aload_n 0, 1) := by decide +kernel
theorem dX9_image_39 : decode cX9_image 39 = .ok (.getfield 123, 3) := by decide +kernel
theorem dX9_image_42 : decode cX9_image 42 = .ok (.putfield 148, 3) := by decide +kernel
theorem dX9_image_45 : decode cX9_image 45 = .ok (.iconst 0, 1) := by decide +kernel
theorem dX9_image_46 : decode cX9_image 46 = .ok (.istore_n 1, 1) := by decide +kernel
theorem dX9_image_47 : decode cX9_image 47 = .ok (.iload_n 1, 1) := by decide +kernel
theorem dX9_image_48 : decode cX9_image 48 = .ok (.bipush 12, 2) := by decide +kernel
theorem dX9_image_50 : decode cX9_image 50 = .ok (.if_icmp .ge 45, 3) := by decide +kernel
theorem dX9_image_53 : decode cX9_image 53 = .ok (.aload_n 0, 1) := by decide +kernel
theorem dX9_image_54 : decode cX9_image 54 = .ok (.getfield 151, 3) := by decide +kernel
theorem dX9_image_57 : decode cX9_image 57 = .ok (.iload_n 1, 1) := by decide +kernel
theorem dX9_image_58 : decode cX9_image 58 = .ok (.aload_n 0, 1) := by decide +kernel
theorem dX9_image_59 : decode cX9_image 59 = .ok (.getfield 7, 3) := by decide +kernel
theorem dX9_image_62 : decode cX9_image 62 = .ok (.iload_n 1, 1) := by decide +kernel
theorem dX9_image_63 : decode cX9_image 63 = .ok (.iaload, 1) := by decide +kernel
theorem dX9_image_64 : decode cX9_image 64 = .ok (.iastore, 1) := by decide +kernel
theorem dX9_image_65 : decode cX9_image 65 = .ok (.aload_n 0, 1) := by decide +kernel
theorem dX9_image_66 : decode cX9_image 66 = .ok (.getfield 178, 3) := by decide +kernel
theorem dX9_image_69 : decode cX9_image 69 = .ok (.iload_n 1, 1) := by decide +kernel
theorem dX9_image_70 : decode cX9_image 70 = .ok (.aload_n 0, 1) := by decide +kernel
theorem dX9_image_71 : decode cX9_image 71 = .ok (.getfield 126, 3) := by decide +kernel
theorem dX9_image_74 : decode cX9_image 74 = .ok (.iload_n 1, 1) := by decide +kernel
theorem dX9_image_75 : decode cX9_image 75 = .ok (.iaload, 1) := by decide +kernel
theorem dX9_image_76 : decode cX9_image 76 = .ok (.iastore, 1) := by decide +kernel
theorem dX9_image_77 : decode cX9_image 77 = .ok (.aload_n 0, 1) := by decide +kernel
theorem dX9_image_78 : decode cX9_image 78 = .ok (.getfield 181, 3) := by decide +kernel
theorem dX9_image_81 : decode cX9_image 81 = .ok (.iload_n 1, 1) := by decide +kernel
theorem dX9_image_82 : decode cX9_image 82 = .ok (.aload_n 0, 1) := by decide +kernel
theorem dX9_image_83 : decode cX9_image 83 = .ok (.getfield 129, 3) := by decide +kernel
theorem dX9_image_86 : decode cX9_image 86 = .ok (.iload_n 1, 1) := by decide +kernel
theorem dX9_image_87 : decode cX9_image 87 = .ok (.iaload, 1) := by decide +kernel
theorem dX9_image_88 : decode cX9_image 88 = .ok (.iastore, 1) := by decide +kernel
theorem dX9_image_89 : decode cX9_image 89 = .ok (.iinc 1 1, 3) := by decide +kernel
theorem dX9_image_92 : decode cX9_image 92 = .ok (.goto (-45), 3) := by decide +kernel
theorem dX9_image_95 : decode cX9_image 95 = .ok (.iconst 0, 1) := by decide +kernel
theorem dX9_image_96 : decode cX9_image 96 = .ok (.istore_n 1, 1) := by decide +kernel
theorem dX9_image_97 : decode cX9_image 97 = .ok (.iload_n 1, 1) := by decide +kernel
theorem dX9_image_98 : decode cX9_image 98 = .ok (.iconst 4, 1) := by decide +kernel
theorem dX9_image_99 : decode cX9_image 99 = .ok (.if_icmp .ge 93, 3) := by decide +kernel
theorem dX9_image_102 : decode cX9_image 102 = .ok (.aload_n 0, 1) := by decide +kernel
theorem dX9_image_103 : decode cX9_image 103 = .ok (.getfield 154, 3) := by decide +kernel
theorem dX9_image_106 : decode cX9_image 106 = .ok (.iload_n 1, 1) := by decide +kernel
theorem dX9_image_107 : decode cX9_image 107 = .ok (.aload_n 0, 1) := by decide +kernel
theorem dX9_image_108 : decode cX9_image 108 = .ok (.getfield 23, 3) := by decide +kernel
theorem dX9_image_111 : decode cX9_image 111 = .ok (.iload_n 1, 1) := by decide +kernel
theorem dX9_image_112 : decode cX9_image 112 = .ok (.iaload, 1) := by decide +kernel
theorem dX9_image_113 : decode cX9_image 113 = .ok (.iastore, 1) := by decide +kernel
theorem dX9_image_114 : decode cX9_image 114 = .ok (.aload_n 0, 1) := by decide +kernel
theorem dX9_image_115 : decode cX9_image 115 = .ok (.getfield 157, 3) := by decide +kernel
theorem dX9_image_118 : decode cX9_image 118 = .ok (.iload_n 1, 1) := by decide +kernel
theorem dX9_image_119 : decode cX9_image 119 = .ok (.aload_n 0, 1) := by decide +kernel
theorem dX9_image_120 : decode cX9_image 120 = .ok (.getfield 26, 3) := by decide +kernel
theorem dX9_image_123 : decode cX9_image 123 = .ok (.iload_n 1, 1) := by decide +kernel
theorem dX9_image_124 : decode cX9_image 124 = .ok (.iaload, 1) := by decide +kernel
theorem dX9_image_125 : decode cX9_image 125 = .ok (.iastore, 1) := by decide +kernel
theorem dX9_image_126 : decode cX9_image 126 = .ok (.aload_n 0, 1) := by decide +kernel
theorem dX9_image_127 : decode cX9_image 127 = .ok (.getfield 160, 3) := by decide +kernel
theorem dX9_image_130 : decode cX9_image 130 = .ok (.iload_n 1, 1) := by decide +kernel
theorem dX9_image_131 : decode cX9_image 131 = .ok (.aload_n 0, 1) := by decide +kernel
theorem dX9_image_132 : decode cX9_image 132 = .ok (.getfield 29, 3) := by decide +kernel
theorem dX9_image_135 : decode cX9_image 135 = .ok (.iload_n 1, 1) := by decide +kernel
theorem dX9_image_136 : decode cX9_image 136 = .ok (.iaload, 1) := by decide +kernel
theorem dX9_image_137 : decode cX9_image 137 = .ok (.iastore, 1) := by decide +kernel
theorem dX9_image_138 : decode cX9_image 138 = .ok (.aload_n 0, 1) := by decide +kernel
theorem dX9_image_139 : decode cX9_image 139 = .ok (.getfield 163, 3) := by decide +kernel
theorem dX9_image_142 : decode cX9_image 142 = .ok (.iload_n 1, 1) := by decide +kernel
theorem dX9_image_143 : decode cX9_image 143 = .ok (.aload_n 0, 1) := by decide +kernel
theorem dX9_image_144 : decode cX9_image 144 = .ok (.getfield 32, 3) := by decide +kernel
theorem dX9_image_147 : decode cX9_image 147 = .ok (.iload_n 1, 1) := by decide +kernel
theorem dX9_image_148 : decode cX9_image 148 = .ok (.iaload, 1) := by decide +kernel
theorem dX9_image_149 : decode cX9_image 149 = .ok (.iastore, 1) := by decide +kernel
theorem dX9_image_150 : decode cX9_image 150 = .ok (.aload_n 0, 1) := by decide +kernel
theorem dX9_image_151 : decode cX9_image 151 = .ok (.getfield 166, 3) := by decide +kernel
theorem dX9_image_154 : decode cX9_image 154 = .ok (.iload_n 1, 1) := by decide +kernel
theorem dX9_image_155 : decode cX9_image 155 = .ok (.aload_n 0, 1) := by decide +kernel
theorem dX9_image_156 : decode cX9_image 156 = .ok (.getfield 35, 3) := by decide +kernel
theorem dX9_image_159 : decode cX9_image 159 = .ok (.iload_n 1, 1) := by decide +kernel
theorem dX9_image_160 : decode cX9_image 160 = .ok (.iaload, 1) := by decide +kernel
theorem dX9_image_161 : decode cX9_image 161 = .ok (.iastore, 1) := by decide +kernel
theorem dX9_image_162 : decode cX9_image 162 = .ok (.aload_n 0, 1) := by decide +kernel
theorem dX9_image_163 : decode cX9_image 163 = .ok (.getfield 169, 3) := by decide +kernel
theorem dX9_image_166 : decode cX9_image 166 = .ok (.iload_n 1, 1) := by decide +kernel
theorem dX9_image_167 : decode cX9_image 167 = .ok (.aload_n 0, 1) := by decide +kernel
theorem dX9_image_168 : decode cX9_image 168 = .ok (.getfield 38, 3) := by decide +kernel
theorem dX9_image_171 : decode cX9_image 171 = .ok (.iload_n 1, 1) := by decide +kernel
theorem dX9_image_172 : decode cX9_image 172 = .ok (.iaload, 1) := by decide +kernel
theorem dX9_image_173 : decode cX9_image 173 = .ok (.iastore, 1) := by decide +kernel
theorem dX9_image_174 : decode cX9_image 174 = .ok (.aload_n 0, 1) := by decide +kernel
theorem dX9_image_175 : decode cX9_image 175 = .ok (.getfield 172, 3) := by decide +kernel
theorem dX9_image_178 : decode cX9_image 178 = .ok (.iload_n 1, 1) := by decide +kernel
theorem dX9_image_179 : decode cX9_image 179 = .ok (.aload_n 0, 1) := by decide +kernel
theorem dX9_image_180 : decode cX9_image 180 = .ok (.getfield 41, 3) := by decide +kernel
theorem dX9_image_183 : decode cX9_image 183 = .ok (.iload_n 1, 1) := by decide +kernel
theorem dX9_image_184 : decode cX9_image 184 = .ok (.iaload, 1) := by decide +kernel
theorem dX9_image_185 : decode cX9_image 185 = .ok (.iastore, 1) := by decide +kernel
theorem dX9_image_186 : decode cX9_image 186 = .ok (.iinc 1 1, 3) := by decide +kernel
theorem dX9_image_189 : decode cX9_image 189 = .ok (.goto (-92), 3) := by decide +kernel
theorem dX9_image_192 : decode cX9_image 192 = .ok (.iconst 0, 1) := by decide +kernel
theorem dX9_image_193 : decode cX9_image 193 = .ok (.istore_n 1, 1) := by decide +kernel
theorem dX9_image_194 : decode cX9_image 194 = .ok (.iload_n 1, 1) := by decide +kernel
theorem dX9_image_195 : decode cX9_image 195 = .ok (.bipush 24, 2) := by decide +kernel
theorem dX9_image_197 : decode cX9_image 197 = .ok (.if_icmp .ge 21, 3) := by decide +kernel
theorem dX9_image_200 : decode cX9_image 200 = .ok (.aload_n 0, 1) := by decide +kernel
theorem dX9_image_201 : decode cX9_image 201 = .ok (.getfield 175, 3) := by decide +kernel
theorem dX9_image_204 : decode cX9_image 204 = .ok (.iload_n 1, 1) := by decide +kernel
theorem dX9_image_205 : decode cX9_image 205 = .ok (.aload_n 0, 1) := by decide +kernel
theorem dX9_image_206 : decode cX9_image 206 = .ok (.getfield 44, 3) := by decide +kernel
theorem dX9_image_209 : decode cX9_image 209 = .ok (.iload_n 1, 1) := by decide +kernel
theorem dX9_image_210 : decode cX9_image 210 = .ok (.iaload, 1) := by decide +kernel
theorem dX9_image_211 : decode cX9_image 211 = .ok (.iastore, 1) := by decide +kernel
theorem dX9_image_212 : decode cX9_image 212 = .ok (.iinc 1 1, 3) := by decide +kernel
theorem dX9_image_215 : decode cX9_image 215 = .ok (.goto (-21), 3) := by decide +kernel
theorem dX9_image_218 : decode cX9_image 218 = .ok (.aload_n 0, 1) := by decide +kernel
theorem dX9_image_219 : decode cX9_image 219 = .ok (.getfield 13, 3) := by decide +kernel
theorem dX9_image_222 : decode cX9_image 222 = .ok (.ireturn, 1) := by decide +kernel
theorem dX9_undo_0 : decode cX9_undo 0 = .ok (.aload_n 0, 1) := by decide +kernel
theorem dX9_undo_1 : decode cX9_undo 1 = .ok (.getfield 132, 3) := by decide +kernel
theorem dX9_undo_4 : decode cX9_undo 4 = .ok (.ifCond .ne 6, 3) := by decide +kernel
theorem dX9_undo_7 : decode cX9_undo 7 = .ok (.bipush (-3), 2) := by decide +kernel
theorem dX9_undo_9 : decode cX9_undo 9 = .ok (.ireturn, 1) := by decide +kernel
theorem dX9_undo_10 : decode cX9_undo 10 = .ok (.aload_n 0, 1) := by decide +kernel
theorem dX9_undo_11 : decode cX9_undo 11 = .ok (.aload_n 0, 1) := by decide +kernel
theorem dX9_undo_12 : decode cX9_undo 12 = .ok (.getfield 136, 3) := by decide +kernel
theorem dX9_undo_15 : decode cX9_undo 15 = .ok (.putfield 50, 3) := by decide +kernel
theorem dX9_undo_18 : decode cX9_undo 18 = .ok (.aload_n 0, 1) := by decide +kernel
theorem dX9_undo_19 : decode cX9_undo 19 = .ok (.aload_n 0, 1) := by decide +kernel
theorem dX9_undo_20 : decode cX9_undo 20 = .ok (.getfield 139, 3) := by decide +kernel
theorem dX9_undo_23 : decode cX9_undo 23 = .ok (.putfield 13, 3) := by decide +kernel
theorem dX9_undo_26 : decode cX9_undo 26 = .ok (.aload_n 0, 1) := by decide +kernel
theorem dX9_undo_27 : decode cX9_undo 27 = .ok (.aload_n 0, 1) := by decide +kernel
theorem dX9_undo_28 : decode cX9_undo 28 = .ok (.getfield 142, 3) := by decide +kernel
theorem dX9_undo_31 : decode cX9_undo 31 = .ok (.putfield 17, 3) := by decide +kernel
theorem dX9_undo_34 : decode cX9_undo 34 = .ok (.aload_n 0, 1) := by decide +kernel
theorem dX9_undo_35 : decode cX9_undo 35 = .ok (.aload_n 0, 1) := by decide +kernel
theorem dX9_undo_36 : decode cX9_undo 36 = .ok (.getfield 145, 3) := by decide +kernel
theorem dX9_undo_39 : decode cX9_undo 39 = .ok (.putfield 20, 3) := by decide +kernel
theorem dX9_undo_42 : decode cX9_undo 42 = .ok (.aload_n 0, 1) := by decide +kernel
theorem dX9_undo_43 : decode cX9_undo 43 = .ok (.aload_n 0, 1) := by decide +kernel
theorem dX9_undo_44 : decode cX9_undo 44 = .ok (.getfield 148, 3) := by decide +kernel
theorem dX9_undo_47 : decode cX9_undo 47 = .ok (.putfield 123, 3) := by decide +kernel
theorem dX9_undo_50 : decode cX9_undo 50 = .ok (.iconst 0, 1) := by decide +kernel
theorem dX9_undo_51 : decode cX9_undo 51 = .ok (.istore_n 1, 1) := by decide +kernel
theorem dX9_undo_52 : decode cX9_undo 52 = .ok (.iload_n 1, 1) := by decide +kernel
theorem dX9_undo_53 : decode cX9_undo 53 = .ok (.bipush 12, 2) := by decide +kernel
theorem dX9_undo_55 : decode cX9_undo 55 = .ok (.if_icmp .ge 45, 3) := by decide +kernel
theorem dX9_undo_58 : decode cX9_undo 58 = .ok (.aload_n 0, 1) := by decide +kernel
theorem dX9_undo_59 : decode cX9_undo 59 = .ok (.getfield 7, 3) := by decide +kernel
theorem dX9_undo_62 : decode cX9_undo 62 = .ok (.iload_n 1, 1) := by decide +kernel
theorem dX9_undo_63 : decode cX9_undo 63 = .ok (.aload_n 0, 1) := by decide +kernel
theorem dX9_undo_64 : decode cX9_undo 64 = .ok (.getfield 151, 3) := by decide +kernel
theorem dX9_undo_67 : decode cX9_undo 67 = .ok (.iload_n 1, 1) := by decide +kernel
theorem dX9_undo_68 : decode cX9_undo 68 = .ok (.iaload, 1) := by decide +kernel
theorem dX9_undo_69 : decode cX9_undo 69 = .ok (.iastore, 1) := by decide +kernel
theorem dX9_undo_70 : decode cX9_undo 70 = .ok (.aload_n 0, 1) := by decide +kernel
theorem dX9_undo_71 : decode cX9_undo 71 = .ok (.getfield 126, 3) := by decide +kernel
theorem dX9_undo_74 : decode cX9_undo 74 = .ok (.iload_n 1, 1) := by decide +kernel
theorem dX9_undo_75 : decode cX9_undo 75 = .ok (.aload_n 0, 1) := by decide +kernel
theorem dX9_undo_76 : decode cX9_undo 76 = .ok (.getfield 178, 3) := by decide +kernel
theorem dX9_undo_79 : decode cX9_undo 79 = .ok (.iload_n 1, 1) := by decide +kernel
theorem dX9_undo_80 : decode cX9_undo 80 = .ok (.iaload, 1) := by decide +kernel
theorem dX9_undo_81 : decode cX9_undo 81 = .ok (.iastore, 1) := by decide +kernel
theorem dX9_undo_82 : decode cX9_undo 82 = .ok (.aload_n 0, 1) := by decide +kernel
theorem dX9_undo_83 : decode cX9_undo 83 = .ok (.getfield 129, 3) := by decide +kernel
theorem dX9_undo_86 : decode cX9_undo 86 = .ok (.iload_n 1, 1) := by decide +kernel
theorem dX9_undo_87 : decode cX9_undo 87 = .ok (.aload_n 0, 1) := by decide +kernel
theorem dX9_undo_88 : decode cX9_undo 88 = .ok (.getfield 181, 3) := by decide +kernel
theorem dX9_undo_91 : decode cX9_undo 91 = .ok (.iload_n 1, 1) := by decide +kernel
theorem dX9_undo_92 : decode cX9_undo 92 = .ok (.iaload, 1) := by decide +kernel
theorem dX9_undo_93 : decode cX9_undo 93 = .ok (.iastore, 1) := by decide +kernel
theorem dX9_undo_94 : decode cX9_undo 94 = .ok (.iinc 1 1, 3) := by decide +kernel
theorem dX9_undo_97 : decode cX9_undo 97 = .ok (.goto (-45), 3) := by decide +kernel
theorem dX9_undo_100 : decode cX9_undo 100 = .ok (.iconst 0, 1) := by decide +kernel
theorem dX9_undo_101 : decode cX9_undo 101 = .ok (.istore_n 1, 1) := by decide +kernel
theorem dX9_undo_102 : decode cX9_undo 102 = .ok (.iload_n 1, 1) := by decide +kernel
theorem dX9_undo_103 : decode cX9_undo 103 = .ok (.iconst 4, 1) := by decide +kernel
theorem dX9_undo_104 : decode cX9_undo 104 = .ok (.if_icmp .ge 93, 3) := by decide +kernel
theorem dX9_undo_107 : decode cX9_undo 107 = .ok (.aload_n 0, 1) := by decide +kernel
theorem dX9_undo_108 : decode cX9_undo 108 = .ok (.getfield 23, 3) := by decide +kernel
theorem dX9_undo_111 : decode cX9_undo 111 = .ok (.iload_n 1, 1) := by decide +kernel
theorem dX9_undo_112 : decode cX9_undo 112 = .ok (.aload_n 0, 1) := by decide +kernel
theorem dX9_undo_113 : decode cX9_undo 113 = .ok (.getfield 154, 3) := by decide +kernel
theorem dX9_undo_116 : decode cX9_undo 116 = .ok (.iload_n 1, 1) := by decide +kernel
theorem dX9_undo_117 : decode cX9_undo 117 = .ok (.iaload, 1) := by decide +kernel
theorem dX9_undo_118 : decode cX9_undo 118 = .ok (.iastore, 1) := by decide +kernel
theorem dX9_undo_119 : decode cX9_undo 119 = .ok (.aload_n 0, 1) := by decide +kernel
theorem dX9_undo_120 : decode cX9_undo 120 = .ok (.getfield 26, 3) := by decide +kernel
theorem dX9_undo_123 : decode cX9_undo 123 = .ok (.iload_n 1, 1) := by decide +kernel
theorem dX9_undo_124 : decode cX9_undo 124 = .ok (.aload_n 0, 1) := by decide +kernel
theorem dX9_undo_125 : decode cX9_undo 125 = .ok (.getfield 157, 3) := by decide +kernel
theorem dX9_undo_128 : decode cX9_undo 128 = .ok (.iload_n 1, 1) := by decide +kernel
theorem dX9_undo_129 : decode cX9_undo 129 = .ok (.iaload, 1) := by decide +kernel
theorem dX9_undo_130 : decode cX9_undo 130 = .ok (.iastore, 1) := by decide +kernel
theorem dX9_undo_131 : decode cX9_undo 131 = .ok (.aload_n 0, 1) := by decide +kernel
theorem dX9_undo_132 : decode cX9_undo 132 = .ok (.getfield 29, 3) := by decide +kernel
theorem dX9_undo_135 : decode cX9_undo 135 = .ok (.iload_n 1, 1) := by decide +kernel
theorem dX9_undo_136 : decode cX9_undo 136 = .ok (.aload_n 0, 1) := by decide +kernel
theorem dX9_undo_137 : decode cX9_undo 137 = .ok (.getfield 160, 3) := by decide +kernel
theorem dX9_undo_140 : decode cX9_undo 140 = .ok (.iload_n 1, 1) := by decide +kernel
theorem dX9_undo_141 : decode cX9_undo 141 = .ok (.iaload, 1) := by decide +kernel
theorem dX9_undo_142 : decode cX9_undo 142 = .ok (.iastore, 1) := by decide +kernel
theorem dX9_undo_143 : decode cX9_undo 143 = .ok (.aload_n 0, 1) := by decide +kernel
theorem dX9_undo_144 : decode cX9_undo 144 = .ok (.getfield 32, 3) := by decide +kernel
theorem dX9_undo_147 : decode cX9_undo 147 = .ok (.iload_n 1, 1) := by decide +kernel
theorem dX9_undo_148 : decode cX9_undo 148 = .ok (.aload_n 0, 1) := by decide +kernel
theorem dX9_undo_149 : decode cX9_undo 149 = .ok (.getfield 163, 3) := by decide +kernel
theorem dX9_undo_152 : decode cX9_undo 152 = .ok (.iload_n 1, 1) := by decide +kernel
theorem dX9_undo_153 : decode cX9_undo 153 = .ok (.iaload, 1) := by decide +kernel
theorem dX9_undo_154 : decode cX9_undo 154 = .ok (.iastore, 1) := by decide +kernel
theorem dX9_undo_155 : decode cX9_undo 155 = .ok (.aload_n 0, 1) := by decide +kernel
theorem dX9_undo_156 : decode cX9_undo 156 = .ok (.getfield 35, 3) := by decide +kernel
theorem dX9_undo_159 : decode cX9_undo 159 = .ok (.iload_n 1, 1) := by decide +kernel
theorem dX9_undo_160 : decode cX9_undo 160 = .ok (.aload_n 0, 1) := by decide +kernel
theorem dX9_undo_161 : decode cX9_undo 161 = .ok (.getfield 166, 3) := by decide +kernel
theorem dX9_undo_164 : decode cX9_undo 164 = .ok (.iload_n 1, 1) := by decide +kernel
theorem dX9_undo_165 : decode cX9_undo 165 = .ok (.iaload, 1) := by decide +kernel
theorem dX9_undo_166 : decode cX9_undo 166 = .ok (.iastore, 1) := by decide +kernel
theorem dX9_undo_167 : decode cX9_undo 167 = .ok (.aload_n 0, 1) := by decide +kernel
theorem dX9_undo_168 : decode cX9_undo 168 = .ok (.getfield 38, 3) := by decide +kernel
theorem dX9_undo_171 : decode cX9_undo 171 = .ok (.iload_n 1, 1) := by decide +kernel
theorem dX9_undo_172 : decode cX9_undo 172 = .ok (.aload_n 0, 1) := by decide +kernel
theorem dX9_undo_173 : decode cX9_undo 173 = .ok (.getfield 169, 3) := by decide +kernel
theorem dX9_undo_176 : decode cX9_undo 176 = .ok (.iload_n 1, 1) := by decide +kernel
theorem dX9_undo_177 : decode cX9_undo 177 = .ok (.iaload, 1) := by decide +kernel
theorem dX9_undo_178 : decode cX9_undo 178 = .ok (.iastore, 1) := by decide +kernel
theorem dX9_undo_179 : decode cX9_undo 179 = .ok (.aload_n 0, 1) := by decide +kernel
theorem dX9_undo_180 : decode cX9_undo 180 = .ok (.getfield 41, 3) := by decide +kernel
theorem dX9_undo_183 : decode cX9_undo 183 = .ok (.iload_n 1, 1) := by decide +kernel
theorem dX9_undo_184 : decode cX9_undo 184 = .ok (.aload_n 0, 1) := by decide +kernel
theorem dX9_undo_185 : decode cX9_undo 185 = .ok (.getfield 172, 3) := by decide +kernel
theorem dX9_undo_188 : decode cX9_undo 188 = .ok (.iload_n 1, 1) := by decide +kernel
theorem dX9_undo_189 : decode cX9_undo 189 = .ok (.iaload, 1) := by decide +kernel
theorem dX9_undo_190 : decode cX9_undo 190 = .ok (.iastore, 1) := by decide +kernel
theorem dX9_undo_191 : decode cX9_undo 191 = .ok (.iinc 1 1, 3) := by decide +kernel
theorem dX9_undo_194 : decode cX9_undo 194 = .ok (.goto (-92), 3) := by decide +kernel
theorem dX9_undo_197 : decode cX9_undo 197 = .ok (.iconst 0, 1) := by decide +kernel
theorem dX9_undo_198 : decode cX9_undo 198 = .ok (.istore_n 1, 1) := by decide +kernel
theorem dX9_undo_199 : decode cX9_undo 199 = .ok (.iload_n 1, 1) := by decide +kernel
theorem dX9_undo_200 : decode cX9_undo 200 = .ok (.bipush 24, 2) := by decide +kernel
theorem dX9_undo_202 : decode cX9_undo 202 = .ok (.if_icmp .ge 21, 3) := by decide +kernel
theorem dX9_undo_205 : decode cX9_undo 205 = .ok (.aload_n 0, 1) := by decide +kernel
theorem dX9_undo_206 : decode cX9_undo 206 = .ok (.getfield 44, 3) := by decide +kernel
theorem dX9_undo_209 : decode cX9_undo 209 = .ok (.iload_n 1, 1) := by decide +kernel
theorem dX9_undo_210 : decode cX9_undo 210 = .ok (.aload_n 0, 1) := by decide +kernel
theorem dX9_undo_211 : decode cX9_undo 211 = .ok (.getfield 175, 3) := by decide +kernel
theorem dX9_undo_214 : decode cX9_undo 214 = .ok (.iload_n 1, 1) := by decide +kernel
theorem dX9_undo_215 : decode cX9_undo 215 = .ok (.iaload, 1) := by decide +kernel
theorem dX9_undo_216 : decode cX9_undo 216 = .ok (.iastore, 1) := by decide +kernel
theorem dX9_undo_217 : decode cX9_undo 217 = .ok (.iinc 1 1, 3) := by decide +kernel
theorem dX9_undo_220 : decode cX9_undo 220 = .ok (.goto (-21), 3) := by decide +kernel
theorem dX9_undo_223 : decode cX9_undo 223 = .ok (.aload_n 0, 1) := by decide +kernel
theorem dX9_undo_224 : decode cX9_undo 224 = .ok (.getfield 13, 3) := by decide +kernel
theorem dX9_undo_227 : decode cX9_undo 227 = .ok (.ireturn, 1) := by decide +kernel
theorem dX9_body_0 : decode cX9_body 0 = .ok (.aload_n 0, 1) := by decide +kernel
theorem dX9_body_1 : decode cX9_body 1 = .ok (.getfield 184, 3) := by decide +kernel
theorem dX9_body_4 : decode cX9_body 4 = .ok (.bipush 20, 2) := by decide +kernel
theorem dX9_body_6 : decode cX9_body 6 = .ok (.if_icmp .ge 13, 3) := by decide +kernel
theorem dX9_body_9 : decode cX9_body 9 = .ok (.aload_n 0, 1) := by decide +kernel
theorem dX9_body_10 : decode cX9_body 10 = .ok (.getfield 187, 3) := by decide +kernel
theorem dX9_body_13 : decode cX9_body 13 = .ok (.aload_n 0, 1) := by decide +kernel
theorem dX9_body_14 : decode cX9_body 14 = .ok (.getfield 184, 3) := by decide +kernel
theorem dX9_body_17 : decode cX9_body 17 = .ok (.iload_n 1, 1) := by decide +kernel
theorem dX9_body_18 : decode cX9_body 18 = .ok (.iastore, 1) := by decide +kernel
theorem dX9_body_19 : decode cX9_body 19 = .ok (.aload_n 0, 1) := by decide +kernel
theorem dX9_body_20 : decode cX9_body 20 = .ok (.dup, 1) := by decide +kernel
theorem dX9_body_21 : decode cX9_body 21 = .ok (.getfield 184, 3) := by decide +kernel
theorem dX9_body_24 : decode cX9_body 24 = .ok (.iconst 1, 1) := by decide +kernel
theorem dX9_body_25 : decode cX9_body 25 = .ok (.iadd, 1) := by decide +kernel
theorem dX9_body_26 : decode cX9_body 26 = .ok (.putfield 184, 3) := by decide +kernel
theorem dX9_body_29 : decode cX9_body 29 = .ok (.return_, 1) := by decide +kernel
theorem dX9_doorSwells_0 : decode cX9_doorSwells 0 = .ok (.aload_n 0, 1) := by decide +kernel
theorem dX9_doorSwells_1 : decode cX9_doorSwells 1 = .ok (.bipush 10, 2) := by decide +kernel
theorem dX9_doorSwells_3 : decode cX9_doorSwells 3 = .ok (.invokevirtual 375, 3) := by decide +kernel
theorem dX9_doorSwells_6 : decode cX9_doorSwells 6 = .ok (.iload_n 2, 1) := by decide +kernel
theorem dX9_doorSwells_7 : decode cX9_doorSwells 7 = .ok (.iload_n 1, 1) := by decide +kernel
theorem dX9_doorSwells_8 : decode cX9_doorSwells 8 = .ok (.iadd, 1) := by decide +kernel
theorem dX9_doorSwells_9 : decode cX9_doorSwells 9 = .ok (.ireturn, 1) := by decide +kernel
theorem dX9_swellsAct_0 : decode cX9_swellsAct 0 = .ok (.aload_n 0, 1) := by decide +kernel
theorem dX9_swellsAct_1 : decode cX9_swellsAct 1 = .ok (.getfield 23, 3) := by decide +kernel
theorem dX9_swellsAct_4 : decode cX9_swellsAct 4 = .ok (.iload_n 1, 1) := by decide +kernel
theorem dX9_swellsAct_5 : decode cX9_swellsAct 5 = .ok (.iaload, 1) := by decide +kernel
theorem dX9_swellsAct_6 : decode cX9_swellsAct 6 = .ok (.tableswitch 83 2 6 #[34, 83, 49, 34, 63], 34) := by decide +kernel
theorem dX9_swellsAct_40 : decode cX9_swellsAct 40 = .ok (.aload_n 0, 1) := by decide +kernel
theorem dX9_swellsAct_41 : decode cX9_swellsAct 41 = .ok (.bipush 30, 2) := by decide +kernel
theorem dX9_swellsAct_43 : decode cX9_swellsAct 43 = .ok (.invokevirtual 375, 3) := by decide +kernel
theorem dX9_swellsAct_46 : decode cX9_swellsAct 46 = .ok (.aload_n 0, 1) := by decide +kernel
theorem dX9_swellsAct_47 : decode cX9_swellsAct 47 = .ok (.iload_n 1, 1) := by decide +kernel
theorem dX9_swellsAct_48 : decode cX9_swellsAct 48 = .ok (.iload_n 2, 1) := by decide +kernel
theorem dX9_swellsAct_49 : decode cX9_swellsAct 49 = .ok (.iconst 3, 1) := by decide +kernel
theorem dX9_swellsAct_50 : decode cX9_swellsAct 50 = .ok (.imul, 1) := by decide +kernel
theorem dX9_swellsAct_51 : decode cX9_swellsAct 51 = .ok (.invokevirtual 378, 3) := by decide +kernel
theorem dX9_swellsAct_54 : decode cX9_swellsAct 54 = .ok (.ireturn, 1) := by decide +kernel
theorem dX9_swellsAct_55 : decode cX9_swellsAct 55 = .ok (.aload_n 0, 1) := by decide +kernel
theorem dX9_swellsAct_56 : decode cX9_swellsAct 56 = .ok (.bipush 50, 2) := by decide +kernel
theorem dX9_swellsAct_58 : decode cX9_swellsAct 58 = .ok (.invokevirtual 375, 3) := by decide +kernel
theorem dX9_swellsAct_61 : decode cX9_swellsAct 61 = .ok (.aload_n 0, 1) := by decide +kernel
theorem dX9_swellsAct_62 : decode cX9_swellsAct 62 = .ok (.iload_n 1, 1) := by decide +kernel
theorem dX9_swellsAct_63 : decode cX9_swellsAct 63 = .ok (.iload_n 2, 1) := by decide +kernel
theorem dX9_swellsAct_64 : decode cX9_swellsAct 64 = .ok (.invokevirtual 378, 3) := by decide +kernel
theorem dX9_swellsAct_67 : decode cX9_swellsAct 67 = .ok (.ineg, 1) := by decide +kernel
theorem dX9_swellsAct_68 : decode cX9_swellsAct 68 = .ok (.ireturn, 1) := by decide +kernel
theorem dX9_swellsAct_69 : decode cX9_swellsAct 69 = .ok (.aload_n 0, 1) := by decide +kernel
theorem dX9_swellsAct_70 : decode cX9_swellsAct 70 = .ok (.bipush 71, 2) := by decide +kernel
theorem dX9_swellsAct_72 : decode cX9_swellsAct 72 = .ok (.invokevirtual 375, 3) := by decide +kernel
theorem dX9_swellsAct_75 : decode cX9_swellsAct 75 = .ok (.aload_n 0, 1) := by decide +kernel
theorem dX9_swellsAct_76 : decode cX9_swellsAct 76 = .ok (.iload_n 1, 1) := by decide +kernel
theorem dX9_swellsAct_77 : decode cX9_swellsAct 77 = .ok (.iload_n 2, 1) := by decide +kernel
theorem dX9_swellsAct_78 : decode cX9_swellsAct 78 = .ok (.invokevirtual 378, 3) := by decide +kernel
theorem dX9_swellsAct_81 : decode cX9_swellsAct 81 = .ok (.aload_n 0, 1) := by decide +kernel
theorem dX9_swellsAct_82 : decode cX9_swellsAct 82 = .ok (.getfield 26, 3) := by decide +kernel
theorem dX9_swellsAct_85 : decode cX9_swellsAct 85 = .ok (.iload_n 1, 1) := by decide +kernel
theorem dX9_swellsAct_86 : decode cX9_swellsAct 86 = .ok (.iaload, 1) := by decide +kernel
theorem dX9_swellsAct_87 : decode cX9_swellsAct 87 = .ok (.ixor, 1) := by decide +kernel
theorem dX9_swellsAct_88 : decode cX9_swellsAct 88 = .ok (.ireturn, 1) := by decide +kernel
theorem dX9_swellsAct_89 : decode cX9_swellsAct 89 = .ok (.aload_n 0, 1) := by decide +kernel
theorem dX9_swellsAct_90 : decode cX9_swellsAct 90 = .ok (.iload_n 1, 1) := by decide +kernel
theorem dX9_swellsAct_91 : decode cX9_swellsAct 91 = .ok (.iload_n 2, 1) := by decide +kernel
theorem dX9_swellsAct_92 : decode cX9_swellsAct 92 = .ok (.invokevirtual 378, 3) := by decide +kernel
theorem dX9_swellsAct_95 : decode cX9_swellsAct 95 = .ok (.ireturn, 1) := by decide +kernel
theorem dX9_doorHangs_0 : decode cX9_doorHangs 0 = .ok (.aload_n 0, 1) := by decide +kernel
theorem dX9_doorHangs_1 : decode cX9_doorHangs 1 = .ok (.bipush 11, 2) := by decide +kernel
theorem dX9_doorHangs_3 : decode cX9_doorHangs 3 = .ok (.invokevirtual 375, 3) := by decide +kernel
theorem dX9_doorHangs_6 : decode cX9_doorHangs 6 = .ok (.aload_n 0, 1) := by decide +kernel
theorem dX9_doorHangs_7 : decode cX9_doorHangs 7 = .ok (.iload_n 1, 1) := by decide +kernel
theorem dX9_doorHangs_8 : decode cX9_doorHangs 8 = .ok (.iload_n 2, 1) := by decide +kernel
theorem dX9_doorHangs_9 : decode cX9_doorHangs 9 = .ok (.invokevirtual 381, 3) := by decide +kernel
theorem dX9_doorHangs_12 : decode cX9_doorHangs 12 = .ok (.aload_n 0, 1) := by decide +kernel
theorem dX9_doorHangs_13 : decode cX9_doorHangs 13 = .ok (.getfield 26, 3) := by decide +kernel
theorem dX9_doorHangs_16 : decode cX9_doorHangs 16 = .ok (.iload_n 1, 1) := by decide +kernel
theorem dX9_doorHangs_17 : decode cX9_doorHangs 17 = .ok (.iaload, 1) := by decide +kernel
theorem dX9_doorHangs_18 : decode cX9_doorHangs 18 = .ok (.isub, 1) := by decide +kernel
theorem dX9_doorHangs_19 : decode cX9_doorHangs 19 = .ok (.ireturn, 1) := by decide +kernel
theorem dX9_swollenHangs_0 : decode cX9_swollenHangs 0 = .ok (.aload_n 0, 1) := by decide +kernel
theorem dX9_swollenHangs_1 : decode cX9_swollenHangs 1 = .ok (.bipush 20, 2) := by decide +kernel
theorem dX9_swollenHangs_3 : decode cX9_swollenHangs 3 = .ok (.invokevirtual 375, 3) := by decide +kernel
theorem dX9_swollenHangs_6 : decode cX9_swollenHangs 6 = .ok (.aload_n 0, 1) := by decide +kernel
theorem dX9_swollenHangs_7 : decode cX9_swollenHangs 7 = .ok (.iload_n 1, 1) := by decide +kernel
theorem dX9_swollenHangs_8 : decode cX9_swollenHangs 8 = .ok (.iload_n 2, 1) := by decide +kernel
theorem dX9_swollenHangs_9 : decode cX9_swollenHangs 9 = .ok (.invokevirtual 384, 3) := by decide +kernel
theorem dX9_swollenHangs_12 : decode cX9_swollenHangs 12 = .ok (.bipush 6, 2) := by decide +kernel
theorem dX9_swollenHangs_14 : decode cX9_swollenHangs 14 = .ok (.ixor, 1) := by decide +kernel
theorem dX9_swollenHangs_15 : decode cX9_swollenHangs 15 = .ok (.ireturn, 1) := by decide +kernel
theorem dX9_hangsAct_0 : decode cX9_hangsAct 0 = .ok (.aload_n 0, 1) := by decide +kernel
theorem dX9_hangsAct_1 : decode cX9_hangsAct 1 = .ok (.getfield 23, 3) := by decide +kernel
theorem dX9_hangsAct_4 : decode cX9_hangsAct 4 = .ok (.iload_n 1, 1) := by decide +kernel
theorem dX9_hangsAct_5 : decode cX9_hangsAct 5 = .ok (.iaload, 1) := by decide +kernel
theorem dX9_hangsAct_6 : decode cX9_hangsAct 6 = .ok (.lookupswitch 78 #[(1, 34), (4, 41), (6, 56)], 34) := by decide +kernel
theorem dX9_hangsAct_40 : decode cX9_hangsAct 40 = .ok (.aload_n 0, 1) := by decide +kernel
theorem dX9_hangsAct_41 : decode cX9_hangsAct 41 = .ok (.iload_n 1, 1) := by decide +kernel
theorem dX9_hangsAct_42 : decode cX9_hangsAct 42 = .ok (.iload_n 2, 1) := by decide +kernel
theorem dX9_hangsAct_43 : decode cX9_hangsAct 43 = .ok (.invokevirtual 387, 3) := by decide +kernel
theorem dX9_hangsAct_46 : decode cX9_hangsAct 46 = .ok (.ireturn, 1) := by decide +kernel
theorem dX9_hangsAct_47 : decode cX9_hangsAct 47 = .ok (.aload_n 0, 1) := by decide +kernel
theorem dX9_hangsAct_48 : decode cX9_hangsAct 48 = .ok (.bipush 51, 2) := by decide +kernel
theorem dX9_hangsAct_50 : decode cX9_hangsAct 50 = .ok (.invokevirtual 375, 3) := by decide +kernel
theorem dX9_hangsAct_53 : decode cX9_hangsAct 53 = .ok (.aload_n 0, 1) := by decide +kernel
theorem dX9_hangsAct_54 : decode cX9_hangsAct 54 = .ok (.iload_n 1, 1) := by decide +kernel
theorem dX9_hangsAct_55 : decode cX9_hangsAct 55 = .ok (.iload_n 2, 1) := by decide +kernel
theorem dX9_hangsAct_56 : decode cX9_hangsAct 56 = .ok (.iconst 1, 1) := by decide +kernel
theorem dX9_hangsAct_57 : decode cX9_hangsAct 57 = .ok (.iadd, 1) := by decide +kernel
theorem dX9_hangsAct_58 : decode cX9_hangsAct 58 = .ok (.invokevirtual 387, 3) := by decide +kernel
theorem dX9_hangsAct_61 : decode cX9_hangsAct 61 = .ok (.ireturn, 1) := by decide +kernel
theorem dX9_hangsAct_62 : decode cX9_hangsAct 62 = .ok (.aload_n 0, 1) := by decide +kernel
theorem dX9_hangsAct_63 : decode cX9_hangsAct 63 = .ok (.bipush 70, 2) := by decide +kernel
theorem dX9_hangsAct_65 : decode cX9_hangsAct 65 = .ok (.invokevirtual 375, 3) := by decide +kernel
theorem dX9_hangsAct_68 : decode cX9_hangsAct 68 = .ok (.aload_n 0, 1) := by decide +kernel
theorem dX9_hangsAct_69 : decode cX9_hangsAct 69 = .ok (.iload_n 1, 1) := by decide +kernel
theorem dX9_hangsAct_70 : decode cX9_hangsAct 70 = .ok (.iload_n 2, 1) := by decide +kernel
theorem dX9_hangsAct_71 : decode cX9_hangsAct 71 = .ok (.invokevirtual 384, 3) := by decide +kernel
theorem dX9_hangsAct_74 : decode cX9_hangsAct 74 = .ok (.istore_n 3, 1) := by decide +kernel
theorem dX9_hangsAct_75 : decode cX9_hangsAct 75 = .ok (.iload_n 3, 1) := by decide +kernel
theorem dX9_hangsAct_76 : decode cX9_hangsAct 76 = .ok (.aload_n 0, 1) := by decide +kernel
theorem dX9_hangsAct_77 : decode cX9_hangsAct 77 = .ok (.iload_n 1, 1) := by decide +kernel
theorem dX9_hangsAct_78 : decode cX9_hangsAct 78 = .ok (.iconst 2, 1) := by decide +kernel
theorem dX9_hangsAct_79 : decode cX9_hangsAct 79 = .ok (.invokevirtual 378, 3) := by decide +kernel
theorem dX9_hangsAct_82 : decode cX9_hangsAct 82 = .ok (.iadd, 1) := by decide +kernel
theorem dX9_hangsAct_83 : decode cX9_hangsAct 83 = .ok (.ireturn, 1) := by decide +kernel
theorem dX9_hangsAct_84 : decode cX9_hangsAct 84 = .ok (.aload_n 0, 1) := by decide +kernel
theorem dX9_hangsAct_85 : decode cX9_hangsAct 85 = .ok (.iload_n 1, 1) := by decide +kernel
theorem dX9_hangsAct_86 : decode cX9_hangsAct 86 = .ok (.iload_n 2, 1) := by decide +kernel
theorem dX9_hangsAct_87 : decode cX9_hangsAct 87 = .ok (.invokevirtual 384, 3) := by decide +kernel
theorem dX9_hangsAct_90 : decode cX9_hangsAct 90 = .ok (.ireturn, 1) := by decide +kernel
theorem dX9_doorTells_0 : decode cX9_doorTells 0 = .ok (.aload_n 0, 1) := by decide +kernel
theorem dX9_doorTells_1 : decode cX9_doorTells 1 = .ok (.bipush 12, 2) := by decide +kernel
theorem dX9_doorTells_3 : decode cX9_doorTells 3 = .ok (.invokevirtual 375, 3) := by decide +kernel
theorem dX9_doorTells_6 : decode cX9_doorTells 6 = .ok (.aload_n 0, 1) := by decide +kernel
theorem dX9_doorTells_7 : decode cX9_doorTells 7 = .ok (.iload_n 1, 1) := by decide +kernel
theorem dX9_doorTells_8 : decode cX9_doorTells 8 = .ok (.iload_n 2, 1) := by decide +kernel
theorem dX9_doorTells_9 : decode cX9_doorTells 9 = .ok (.invokevirtual 390, 3) := by decide +kernel
theorem dX9_doorTells_12 : decode cX9_doorTells 12 = .ok (.iconst 2, 1) := by decide +kernel
theorem dX9_doorTells_13 : decode cX9_doorTells 13 = .ok (.imul, 1) := by decide +kernel
theorem dX9_doorTells_14 : decode cX9_doorTells 14 = .ok (.ireturn, 1) := by decide +kernel
theorem dX9_tellsAct_0 : decode cX9_tellsAct 0 = .ok (.aload_n 0, 1) := by decide +kernel
theorem dX9_tellsAct_1 : decode cX9_tellsAct 1 = .ok (.getfield 23, 3) := by decide +kernel
theorem dX9_tellsAct_4 : decode cX9_tellsAct 4 = .ok (.iload_n 1, 1) := by decide +kernel
theorem dX9_tellsAct_5 : decode cX9_tellsAct 5 = .ok (.iaload, 1) := by decide +kernel
theorem dX9_tellsAct_6 : decode cX9_tellsAct 6 = .ok (.tableswitch 67 3 6 #[30, 67, 52, 30], 30) := by decide +kernel
theorem dX9_tellsAct_36 : decode cX9_tellsAct 36 = .ok (.aload_n 0, 1) := by decide +kernel
theorem dX9_tellsAct_37 : decode cX9_tellsAct 37 = .ok (.bipush 40, 2) := by decide +kernel
theorem dX9_tellsAct_39 : decode cX9_tellsAct 39 = .ok (.invokevirtual 375, 3) := by decide +kernel
theorem dX9_tellsAct_42 : decode cX9_tellsAct 42 = .ok (.aload_n 0, 1) := by decide +kernel
theorem dX9_tellsAct_43 : decode cX9_tellsAct 43 = .ok (.iload_n 1, 1) := by decide +kernel
theorem dX9_tellsAct_44 : decode cX9_tellsAct 44 = .ok (.iload_n 2, 1) := by decide +kernel
theorem dX9_tellsAct_45 : decode cX9_tellsAct 45 = .ok (.invokevirtual 393, 3) := by decide +kernel
theorem dX9_tellsAct_48 : decode cX9_tellsAct 48 = .ok (.istore_n 3, 1) := by decide +kernel
theorem dX9_tellsAct_49 : decode cX9_tellsAct 49 = .ok (.iload_n 3, 1) := by decide +kernel
theorem dX9_tellsAct_50 : decode cX9_tellsAct 50 = .ok (.aload_n 0, 1) := by decide +kernel
theorem dX9_tellsAct_51 : decode cX9_tellsAct 51 = .ok (.iload_n 1, 1) := by decide +kernel
theorem dX9_tellsAct_52 : decode cX9_tellsAct 52 = .ok (.iconst 1, 1) := by decide +kernel
theorem dX9_tellsAct_53 : decode cX9_tellsAct 53 = .ok (.invokevirtual 390, 3) := by decide +kernel
theorem dX9_tellsAct_56 : decode cX9_tellsAct 56 = .ok (.iadd, 1) := by decide +kernel
theorem dX9_tellsAct_57 : decode cX9_tellsAct 57 = .ok (.ireturn, 1) := by decide +kernel
theorem dX9_tellsAct_58 : decode cX9_tellsAct 58 = .ok (.aload_n 0, 1) := by decide +kernel
theorem dX9_tellsAct_59 : decode cX9_tellsAct 59 = .ok (.bipush 60, 2) := by decide +kernel
theorem dX9_tellsAct_61 : decode cX9_tellsAct 61 = .ok (.invokevirtual 375, 3) := by decide +kernel
theorem dX9_tellsAct_64 : decode cX9_tellsAct 64 = .ok (.aload_n 0, 1) := by decide +kernel
theorem dX9_tellsAct_65 : decode cX9_tellsAct 65 = .ok (.iload_n 1, 1) := by decide +kernel
theorem dX9_tellsAct_66 : decode cX9_tellsAct 66 = .ok (.iload_n 2, 1) := by decide +kernel
theorem dX9_tellsAct_67 : decode cX9_tellsAct 67 = .ok (.iload_n 1, 1) := by decide +kernel
theorem dX9_tellsAct_68 : decode cX9_tellsAct 68 = .ok (.isub, 1) := by decide +kernel
theorem dX9_tellsAct_69 : decode cX9_tellsAct 69 = .ok (.invokevirtual 393, 3) := by decide +kernel
theorem dX9_tellsAct_72 : decode cX9_tellsAct 72 = .ok (.ireturn, 1) := by decide +kernel
theorem dX9_tellsAct_73 : decode cX9_tellsAct 73 = .ok (.aload_n 0, 1) := by decide +kernel
theorem dX9_tellsAct_74 : decode cX9_tellsAct 74 = .ok (.iload_n 1, 1) := by decide +kernel
theorem dX9_tellsAct_75 : decode cX9_tellsAct 75 = .ok (.iload_n 2, 1) := by decide +kernel
theorem dX9_tellsAct_76 : decode cX9_tellsAct 76 = .ok (.invokevirtual 393, 3) := by decide +kernel
theorem dX9_tellsAct_79 : decode cX9_tellsAct 79 = .ok (.ireturn, 1) := by decide +kernel
theorem dX9_act_0 : decode cX9_act 0 = .ok (.aload_n 0, 1) := by decide +kernel
theorem dX9_act_1 : decode cX9_act 1 = .ok (.iconst 0, 1) := by decide +kernel
theorem dX9_act_2 : decode cX9_act 2 = .ok (.putfield 184, 3) := by decide +kernel
theorem dX9_act_5 : decode cX9_act 5 = .ok (.aload_n 0, 1) := by decide +kernel
theorem dX9_act_6 : decode cX9_act 6 = .ok (.iload_n 1, 1) := by decide +kernel
theorem dX9_act_7 : decode cX9_act 7 = .ok (.invokevirtual 207, 3) := by decide +kernel
theorem dX9_act_10 : decode cX9_act 10 = .ok (.ifCond .eq 13, 3) := by decide +kernel
theorem dX9_act_13 : decode cX9_act 13 = .ok (.aload_n 0, 1) := by decide +kernel
theorem dX9_act_14 : decode cX9_act 14 = .ok (.iload_n 2, 1) := by decide +kernel
theorem dX9_act_15 : decode cX9_act 15 = .ok (.iconst 0, 1) := by decide +kernel
theorem dX9_act_16 : decode cX9_act 16 = .ok (.iconst 2, 1) := by decide +kernel
theorem dX9_act_17 : decode cX9_act 17 = .ok (.invokevirtual 203, 3) := by decide +kernel
theorem dX9_act_20 : decode cX9_act 20 = .ok (.ifCond .ne 5, 3) := by decide +kernel
theorem dX9_act_23 : decode cX9_act 23 = .ok (.iconst 0, 1) := by decide +kernel
theorem dX9_act_24 : decode cX9_act 24 = .ok (.ireturn, 1) := by decide +kernel
theorem dX9_act_25 : decode cX9_act 25 = .ok (.iload_n 2, 1) := by decide +kernel
theorem dX9_act_26 : decode cX9_act 26 = .ok (.ifCond .ne 12, 3) := by decide +kernel
theorem dX9_act_29 : decode cX9_act 29 = .ok (.aload_n 0, 1) := by decide +kernel
theorem dX9_act_30 : decode cX9_act 30 = .ok (.iload_n 1, 1) := by decide +kernel
theorem dX9_act_31 : decode cX9_act 31 = .ok (.iload_n 3, 1) := by decide +kernel
theorem dX9_act_32 : decode cX9_act 32 = .ok (.invokevirtual 381, 3) := by decide +kernel
theorem dX9_act_35 : decode cX9_act 35 = .ok (.goto 23, 3) := by decide +kernel
theorem dX9_act_38 : decode cX9_act 38 = .ok (.iload_n 2, 1) := by decide +kernel
theorem dX9_act_39 : decode cX9_act 39 = .ok (.iconst 1, 1) := by decide +kernel
theorem dX9_act_40 : decode cX9_act 40 = .ok (.if_icmp .ne 12, 3) := by decide +kernel
theorem dX9_act_43 : decode cX9_act 43 = .ok (.aload_n 0, 1) := by decide +kernel
theorem dX9_act_44 : decode cX9_act 44 = .ok (.iload_n 1, 1) := by decide +kernel
theorem dX9_act_45 : decode cX9_act 45 = .ok (.iload_n 3, 1) := by decide +kernel
theorem dX9_act_46 : decode cX9_act 46 = .ok (.invokevirtual 390, 3) := by decide +kernel
theorem dX9_act_49 : decode cX9_act 49 = .ok (.goto 9, 3) := by decide +kernel
theorem dX9_act_52 : decode cX9_act 52 = .ok (.aload_n 0, 1) := by decide +kernel
theorem dX9_act_53 : decode cX9_act 53 = .ok (.iload_n 1, 1) := by decide +kernel
theorem dX9_act_54 : decode cX9_act 54 = .ok (.iload_n 3, 1) := by decide +kernel
theorem dX9_act_55 : decode cX9_act 55 = .ok (.invokevirtual 396, 3) := by decide +kernel
theorem dX9_act_58 : decode cX9_act 58 = .ok (.ireturn, 1) := by decide +kernel
theorem dX9_trace_0 : decode cX9_trace 0 = .ok (.aload_n 0, 1) := by decide +kernel
theorem dX9_trace_1 : decode cX9_trace 1 = .ok (.iload_n 1, 1) := by decide +kernel
theorem dX9_trace_2 : decode cX9_trace 2 = .ok (.iconst 0, 1) := by decide +kernel
theorem dX9_trace_3 : decode cX9_trace 3 = .ok (.bipush 19, 2) := by decide +kernel
theorem dX9_trace_5 : decode cX9_trace 5 = .ok (.invokevirtual 203, 3) := by decide +kernel
theorem dX9_trace_8 : decode cX9_trace 8 = .ok (.ifCond .eq 20, 3) := by decide +kernel
theorem dX9_trace_11 : decode cX9_trace 11 = .ok (.iload_n 1, 1) := by decide +kernel
theorem dX9_trace_12 : decode cX9_trace 12 = .ok (.aload_n 0, 1) := by decide +kernel
theorem dX9_trace_13 : decode cX9_trace 13 = .ok (.getfield 184, 3) := by decide +kernel
theorem dX9_trace_16 : decode cX9_trace 16 = .ok (.if_icmp .ge 12, 3) := by decide +kernel
theorem dX9_trace_19 : decode cX9_trace 19 = .ok (.aload_n 0, 1) := by decide +kernel
theorem dX9_trace_20 : decode cX9_trace 20 = .ok (.getfield 187, 3) := by decide +kernel
theorem dX9_trace_23 : decode cX9_trace 23 = .ok (.iload_n 1, 1) := by decide +kernel
theorem dX9_trace_24 : decode cX9_trace 24 = .ok (.iaload, 1) := by decide +kernel
theorem dX9_trace_25 : decode cX9_trace 25 = .ok (.goto 4, 3) := by decide +kernel
theorem dX9_trace_28 : decode cX9_trace 28 = .ok (.iconst (-1), 1) := by decide +kernel
theorem dX9_trace_29 : decode cX9_trace 29 = .ok (.ireturn, 1) := by decide +kernel
theorem dX9_taken_0 : decode cX9_taken 0 = .ok (.aload_n 0, 1) := by decide +kernel
theorem dX9_taken_1 : decode cX9_taken 1 = .ok (.iload_n 2, 1) := by decide +kernel
theorem dX9_taken_2 : decode cX9_taken 2 = .ok (.iconst 0, 1) := by decide +kernel
theorem dX9_taken_3 : decode cX9_taken 3 = .ok (.bipush 6, 2) := by decide +kernel
theorem dX9_taken_5 : decode cX9_taken 5 = .ok (.invokevirtual 203, 3) := by decide +kernel
theorem dX9_taken_8 : decode cX9_taken 8 = .ok (.ifCond .ne 6, 3) := by decide +kernel
theorem dX9_taken_11 : decode cX9_taken 11 = .ok (.bipush (-2), 2) := by decide +kernel
theorem dX9_taken_13 : decode cX9_taken 13 = .ok (.ireturn, 1) := by decide +kernel
theorem dX9_taken_14 : decode cX9_taken 14 = .ok (.aload_n 0, 1) := by decide +kernel
theorem dX9_taken_15 : decode cX9_taken 15 = .ok (.iload_n 1, 1) := by decide +kernel
theorem dX9_taken_16 : decode cX9_taken 16 = .ok (.invokevirtual 207, 3) := by decide +kernel
theorem dX9_taken_19 : decode cX9_taken 19 = .ok (.ifCond .ne 6, 3) := by decide +kernel
theorem dX9_taken_22 : decode cX9_taken 22 = .ok (.bipush (-11), 2) := by decide +kernel
theorem dX9_taken_24 : decode cX9_taken 24 = .ok (.ireturn, 1) := by decide +kernel
theorem dX9_taken_25 : decode cX9_taken 25 = .ok (.aload_n 0, 1) := by decide +kernel
theorem dX9_taken_26 : decode cX9_taken 26 = .ok (.getfield 23, 3) := by decide +kernel
theorem dX9_taken_29 : decode cX9_taken 29 = .ok (.iload_n 1, 1) := by decide +kernel
theorem dX9_taken_30 : decode cX9_taken 30 = .ok (.iaload, 1) := by decide +kernel
theorem dX9_taken_31 : decode cX9_taken 31 = .ok (.istore_n 3, 1) := by decide +kernel
theorem dX9_taken_32 : decode cX9_taken 32 = .ok (.iload_n 2, 1) := by decide +kernel
theorem dX9_taken_33 : decode cX9_taken 33 = .ok (.ifCond .eq 39, 3) := by decide +kernel
theorem dX9_taken_36 : decode cX9_taken 36 = .ok (.iload_n 3, 1) := by decide +kernel
theorem dX9_taken_37 : decode cX9_taken 37 = .ok (.iload_n 2, 1) := by decide +kernel
theorem dX9_taken_38 : decode cX9_taken 38 = .ok (.if_icmp .eq 34, 3) := by decide +kernel
theorem dX9_taken_41 : decode cX9_taken 41 = .ok (.iload_n 2, 1) := by decide +kernel
theorem dX9_taken_42 : decode cX9_taken 42 = .ok (.iconst 1, 1) := by decide +kernel
theorem dX9_taken_43 : decode cX9_taken 43 = .ok (.if_icmp .ne 8, 3) := by decide +kernel
theorem dX9_taken_46 : decode cX9_taken 46 = .ok (.iload_n 3, 1) := by decide +kernel
theorem dX9_taken_47 : decode cX9_taken 47 = .ok (.iconst 4, 1) := by decide +kernel
theorem dX9_taken_48 : decode cX9_taken 48 = .ok (.if_icmp .eq 24, 3) := by decide +kernel
theorem dX9_taken_51 : decode cX9_taken 51 = .ok (.iload_n 2, 1) := by decide +kernel
theorem dX9_taken_52 : decode cX9_taken 52 = .ok (.iconst 2, 1) := by decide +kernel
theorem dX9_taken_53 : decode cX9_taken 53 = .ok (.if_icmp .ne 8, 3) := by decide +kernel
theorem dX9_taken_56 : decode cX9_taken 56 = .ok (.iload_n 3, 1) := by decide +kernel
theorem dX9_taken_57 : decode cX9_taken 57 = .ok (.iconst 5, 1) := by decide +kernel
theorem dX9_taken_58 : decode cX9_taken 58 = .ok (.if_icmp .eq 14, 3) := by decide +kernel
theorem dX9_taken_61 : decode cX9_taken 61 = .ok (.iload_n 2, 1) := by decide +kernel
theorem dX9_taken_62 : decode cX9_taken 62 = .ok (.iconst 3, 1) := by decide +kernel
theorem dX9_taken_63 : decode cX9_taken 63 = .ok (.if_icmp .ne 13, 3) := by decide +kernel
theorem dX9_taken_66 : decode cX9_taken 66 = .ok (.iload_n 3, 1) := by decide +kernel
theorem dX9_taken_67 : decode cX9_taken 67 = .ok (.bipush 6, 2) := by decide +kernel
theorem dX9_taken_69 : decode cX9_taken 69 = .ok (.if_icmp .ne 7, 3) := by decide +kernel
theorem dX9_taken_72 : decode cX9_taken 72 = .ok (.iload_n 3, 1) := by decide +kernel
theorem dX9_taken_73 : decode cX9_taken 73 = .ok (.goto 5, 3) := by decide +kernel
theorem dX9_taken_76 : decode cX9_taken 76 = .ok (.bipush (-12), 2) := by decide +kernel
theorem dX9_taken_78 : decode cX9_taken 78 = .ok (.ireturn, 1) := by decide +kernel
theorem dX9_count_0 : decode cX9_count 0 = .ok (.iload_n 1, 1) := by decide +kernel
theorem dX9_count_1 : decode cX9_count 1 = .ok (.tableswitch 60 0 4 #[35, 40, 45, 50, 55], 35) := by decide +kernel
theorem dX9_count_36 : decode cX9_count 36 = .ok (.aload_n 0, 1) := by decide +kernel
theorem dX9_count_37 : decode cX9_count 37 = .ok (.getfield 13, 3) := by decide +kernel
theorem dX9_count_40 : decode cX9_count 40 = .ok (.ireturn, 1) := by decide +kernel
theorem dX9_count_41 : decode cX9_count 41 = .ok (.aload_n 0, 1) := by decide +kernel
theorem dX9_count_42 : decode cX9_count 42 = .ok (.getfield 47, 3) := by decide +kernel
theorem dX9_count_45 : decode cX9_count 45 = .ok (.ireturn, 1) := by decide +kernel
theorem dX9_count_46 : decode cX9_count 46 = .ok (.aload_n 0, 1) := by decide +kernel
theorem dX9_count_47 : decode cX9_count 47 = .ok (.getfield 123, 3) := by decide +kernel
theorem dX9_count_50 : decode cX9_count 50 = .ok (.ireturn, 1) := by decide +kernel
theorem dX9_count_51 : decode cX9_count 51 = .ok (.aload_n 0, 1) := by decide +kernel
theorem dX9_count_52 : decode cX9_count 52 = .ok (.getfield 53, 3) := by decide +kernel
theorem dX9_count_55 : decode cX9_count 55 = .ok (.ireturn, 1) := by decide +kernel
theorem dX9_count_56 : decode cX9_count 56 = .ok (.aload_n 0, 1) := by decide +kernel
theorem dX9_count_57 : decode cX9_count 57 = .ok (.getfield 184, 3) := by decide +kernel
theorem dX9_count_60 : decode cX9_count 60 = .ok (.ireturn, 1) := by decide +kernel
theorem dX9_count_61 : decode cX9_count 61 = .ok (.bipush (-2), 2) := by decide +kernel
theorem dX9_count_63 : decode cX9_count 63 = .ok (.ireturn, 1) := by decide +kernel
theorem dX9_isTape_0 : decode cX9_isTape 0 = .ok (.aload_n 0, 1) := by decide +kernel
theorem dX9_isTape_1 : decode cX9_isTape 1 = .ok (.iload_n 1, 1) := by decide +kernel
theorem dX9_isTape_2 : decode cX9_isTape 2 = .ok (.iconst 0, 1) := by decide +kernel
theorem dX9_isTape_3 : decode cX9_isTape 3 = .ok (.iconst 5, 1) := by decide +kernel
theorem dX9_isTape_4 : decode cX9_isTape 4 = .ok (.invokevirtual 203, 3) := by decide +kernel
theorem dX9_isTape_7 : decode cX9_isTape 7 = .ok (.ireturn, 1) := by decide +kernel
theorem dX9_tape_0 : decode cX9_tape 0 = .ok (.aload_n 0, 1) := by decide +kernel
theorem dX9_tape_1 : decode cX9_tape 1 = .ok (.iload_n 1, 1) := by decide +kernel
theorem dX9_tape_2 : decode cX9_tape 2 = .ok (.invokevirtual 372, 3) := by decide +kernel
theorem dX9_tape_5 : decode cX9_tape 5 = .ok (.ifCond .ne 5, 3) := by decide +kernel
theorem dX9_tape_8 : decode cX9_tape 8 = .ok (.iconst (-1), 1) := by decide +kernel
theorem dX9_tape_9 : decode cX9_tape 9 = .ok (.ireturn, 1) := by decide +kernel
theorem dX9_tape_10 : decode cX9_tape 10 = .ok (.aload_n 0, 1) := by decide +kernel
theorem dX9_tape_11 : decode cX9_tape 11 = .ok (.iload_n 2, 1) := by decide +kernel
theorem dX9_tape_12 : decode cX9_tape 12 = .ok (.iconst (-1), 1) := by decide +kernel
theorem dX9_tape_13 : decode cX9_tape 13 = .ok (.iconst 4, 1) := by decide +kernel
theorem dX9_tape_14 : decode cX9_tape 14 = .ok (.invokevirtual 203, 3) := by decide +kernel
theorem dX9_tape_17 : decode cX9_tape 17 = .ok (.ifCond .eq 13, 3) := by decide +kernel
theorem dX9_tape_20 : decode cX9_tape 20 = .ok (.iload_n 2, 1) := by decide +kernel
theorem dX9_tape_21 : decode cX9_tape 21 = .ok (.ifCond .lt 12, 3) := by decide +kernel
theorem dX9_tape_24 : decode cX9_tape 24 = .ok (.iload_n 3, 1) := by decide +kernel
theorem dX9_tape_25 : decode cX9_tape 25 = .ok (.bipush 60, 2) := by decide +kernel
theorem dX9_tape_27 : decode cX9_tape 27 = .ok (.if_icmp .le 6, 3) := by decide +kernel
theorem dX9_tape_30 : decode cX9_tape 30 = .ok (.bipush (-2), 2) := by decide +kernel
theorem dX9_tape_32 : decode cX9_tape 32 = .ok (.ireturn, 1) := by decide +kernel
theorem dX9_tape_33 : decode cX9_tape 33 = .ok (.iload_n 2, 1) := by decide +kernel
theorem dX9_tape_34 : decode cX9_tape 34 = .ok (.ifCond .lt 10, 3) := by decide +kernel
theorem dX9_tape_37 : decode cX9_tape 37 = .ok (.iload_n 3, 1) := by decide +kernel
theorem dX9_tape_38 : decode cX9_tape 38 = .ok (.ifCond .ge 6, 3) := by decide +kernel
theorem dX9_tape_41 : decode cX9_tape 41 = .ok (.bipush (-14), 2) := by decide +kernel
theorem dX9_tape_43 : decode cX9_tape 43 = .ok (.ireturn, 1) := by decide +kernel
theorem dX9_tape_44 : decode cX9_tape 44 = .ok (.aload_n 0, 1) := by decide +kernel
theorem dX9_tape_45 : decode cX9_tape 45 = .ok (.getfield 190, 3) := by decide +kernel
theorem dX9_tape_48 : decode cX9_tape 48 = .ok (.iload_n 1, 1) := by decide +kernel
theorem dX9_tape_49 : decode cX9_tape 49 = .ok (.iload_n 2, 1) := by decide +kernel
theorem dX9_tape_50 : decode cX9_tape 50 = .ok (.iastore, 1) := by decide +kernel
theorem dX9_tape_51 : decode cX9_tape 51 = .ok (.aload_n 0, 1) := by decide +kernel
theorem dX9_tape_52 : decode cX9_tape 52 = .ok (.getfield 193, 3) := by decide +kernel
theorem dX9_tape_55 : decode cX9_tape 55 = .ok (.iload_n 1, 1) := by decide +kernel
theorem dX9_tape_56 : decode cX9_tape 56 = .ok (.iload_n 2, 1) := by decide +kernel
theorem dX9_tape_57 : decode cX9_tape 57 = .ok (.ifCond .ge 7, 3) := by decide +kernel
theorem dX9_tape_60 : decode cX9_tape 60 = .ok (.iconst 0, 1) := by decide +kernel
theorem dX9_tape_61 : decode cX9_tape 61 = .ok (.goto 4, 3) := by decide +kernel
theorem dX9_tape_64 : decode cX9_tape 64 = .ok (.iload_n 3, 1) := by decide +kernel
theorem dX9_tape_65 : decode cX9_tape 65 = .ok (.iastore, 1) := by decide +kernel
theorem dX9_tape_66 : decode cX9_tape 66 = .ok (.iconst 0, 1) := by decide +kernel
theorem dX9_tape_67 : decode cX9_tape 67 = .ok (.istore 4, 2) := by decide +kernel
theorem dX9_tape_69 : decode cX9_tape 69 = .ok (.iload 4, 2) := by decide +kernel
theorem dX9_tape_71 : decode cX9_tape 71 = .ok (.bipush 60, 2) := by decide +kernel
theorem dX9_tape_73 : decode cX9_tape 73 = .ok (.if_icmp .ge 22, 3) := by decide +kernel
theorem dX9_tape_76 : decode cX9_tape 76 = .ok (.aload_n 0, 1) := by decide +kernel
theorem dX9_tape_77 : decode cX9_tape 77 = .ok (.getfield 196, 3) := by decide +kernel
theorem dX9_tape_80 : decode cX9_tape 80 = .ok (.bipush 60, 2) := by decide +kernel
theorem dX9_tape_82 : decode cX9_tape 82 = .ok (.iload_n 1, 1) := by decide +kernel
theorem dX9_tape_83 : decode cX9_tape 83 = .ok (.imul, 1) := by decide +kernel
theorem dX9_tape_84 : decode cX9_tape 84 = .ok (.iload 4, 2) := by decide +kernel
theorem dX9_tape_86 : decode cX9_tape 86 = .ok (.iadd, 1) := by decide +kernel
theorem dX9_tape_87 : decode cX9_tape 87 = .ok (.lconst 0, 1) := by decide +kernel
theorem dX9_tape_88 : decode cX9_tape 88 = .ok (.lastore, 1) := by decide +kernel
theorem dX9_tape_89 : decode cX9_tape 89 = .ok (.iinc 4 1, 3) := by decide +kernel
theorem dX9_tape_92 : decode cX9_tape 92 = .ok (.goto (-23), 3) := by decide +kernel
theorem dX9_tape_95 : decode cX9_tape 95 = .ok (.iconst 1, 1) := by decide +kernel
theorem dX9_tape_96 : decode cX9_tape 96 = .ok (.ireturn, 1) := by decide +kernel
theorem dX9_narrow_0 : decode cX9_narrow 0 = .ok (.iload_n 1, 1) := by decide +kernel
theorem dX9_narrow_1 : decode cX9_narrow 1 = .ok (.ifCond .ne 10, 3) := by decide +kernel
theorem dX9_narrow_4 : decode cX9_narrow 4 = .ok (.lload_n 2, 1) := by decide +kernel
theorem dX9_narrow_5 : decode cX9_narrow 5 = .ok (.l2i, 1) := by decide +kernel
theorem dX9_narrow_6 : decode cX9_narrow 6 = .ok (.i2b, 1) := by decide +kernel
theorem dX9_narrow_7 : decode cX9_narrow 7 = .ok (.i2l, 1) := by decide +kernel
theorem dX9_narrow_8 : decode cX9_narrow 8 = .ok (.goto 46, 3) := by decide +kernel
theorem dX9_narrow_11 : decode cX9_narrow 11 = .ok (.iload_n 1, 1) := by decide +kernel
theorem dX9_narrow_12 : decode cX9_narrow 12 = .ok (.iconst 1, 1) := by decide +kernel
theorem dX9_narrow_13 : decode cX9_narrow 13 = .ok (.if_icmp .ne 10, 3) := by decide +kernel
theorem dX9_narrow_16 : decode cX9_narrow 16 = .ok (.lload_n 2, 1) := by decide +kernel
theorem dX9_narrow_17 : decode cX9_narrow 17 = .ok (.l2i, 1) := by decide +kernel
theorem dX9_narrow_18 : decode cX9_narrow 18 = .ok (.i2s, 1) := by decide +kernel
theorem dX9_narrow_19 : decode cX9_narrow 19 = .ok (.i2l, 1) := by decide +kernel
theorem dX9_narrow_20 : decode cX9_narrow 20 = .ok (.goto 34, 3) := by decide +kernel
theorem dX9_narrow_23 : decode cX9_narrow 23 = .ok (.iload_n 1, 1) := by decide +kernel
theorem dX9_narrow_24 : decode cX9_narrow 24 = .ok (.iconst 2, 1) := by decide +kernel
theorem dX9_narrow_25 : decode cX9_narrow 25 = .ok (.if_icmp .ne 9, 3) := by decide +kernel
theorem dX9_narrow_28 : decode cX9_narrow 28 = .ok (.lload_n 2, 1) := by decide +kernel
theorem dX9_narrow_29 : decode cX9_narrow 29 = .ok (.l2i, 1) := by decide +kernel
theorem dX9_narrow_30 : decode cX9_narrow 30 = .ok (.i2l, 1) := by decide +kernel
theorem dX9_narrow_31 : decode cX9_narrow 31 = .ok (.goto 23, 3) := by decide +kernel
theorem dX9_narrow_34 : decode cX9_narrow 34 = .ok (.iload_n 1, 1) := by decide +kernel
theorem dX9_narrow_35 : decode cX9_narrow 35 = .ok (.iconst 4, 1) := by decide +kernel
theorem dX9_narrow_36 : decode cX9_narrow 36 = .ok (.if_icmp .ne 17, 3) := by decide +kernel
theorem dX9_narrow_39 : decode cX9_narrow 39 = .ok (.lload_n 2, 1) := by decide +kernel
theorem dX9_narrow_40 : decode cX9_narrow 40 = .ok (.lconst 0, 1) := by decide +kernel
theorem dX9_narrow_41 : decode cX9_narrow 41 = .ok (.lcmp, 1) := by decide +kernel
theorem dX9_narrow_42 : decode cX9_narrow 42 = .ok (.ifCond .eq 7, 3) := by decide +kernel
theorem dX9_narrow_45 : decode cX9_narrow 45 = .ok (.lconst 1, 1) := by decide +kernel
theorem dX9_narrow_46 : decode cX9_narrow 46 = .ok (.goto 8, 3) := by decide +kernel
theorem dX9_narrow_49 : decode cX9_narrow 49 = .ok (.lconst 0, 1) := by decide +kernel
theorem dX9_narrow_50 : decode cX9_narrow 50 = .ok (.goto 4, 3) := by decide +kernel
theorem dX9_narrow_53 : decode cX9_narrow 53 = .ok (.lload_n 2, 1) := by decide +kernel
theorem dX9_narrow_54 : decode cX9_narrow 54 = .ok (.lreturn, 1) := by decide +kernel
theorem dX9_item_0 : decode cX9_item 0 = .ok (.aload_n 0, 1) := by decide +kernel
theorem dX9_item_1 : decode cX9_item 1 = .ok (.iload_n 1, 1) := by decide +kernel
theorem dX9_item_2 : decode cX9_item 2 = .ok (.invokevirtual 372, 3) := by decide +kernel
theorem dX9_item_5 : decode cX9_item 5 = .ok (.ifCond .ne 5, 3) := by decide +kernel
theorem dX9_item_8 : decode cX9_item 8 = .ok (.iconst (-1), 1) := by decide +kernel
theorem dX9_item_9 : decode cX9_item 9 = .ok (.ireturn, 1) := by decide +kernel
theorem dX9_item_10 : decode cX9_item 10 = .ok (.aload_n 0, 1) := by decide +kernel
theorem dX9_item_11 : decode cX9_item 11 = .ok (.getfield 190, 3) := by decide +kernel
theorem dX9_item_14 : decode cX9_item 14 = .ok (.iload_n 1, 1) := by decide +kernel
theorem dX9_item_15 : decode cX9_item 15 = .ok (.iaload, 1) := by decide +kernel
theorem dX9_item_16 : decode cX9_item 16 = .ok (.ifCond .ge 6, 3) := by decide +kernel
theorem dX9_item_19 : decode cX9_item 19 = .ok (.bipush (-11), 2) := by decide +kernel
theorem dX9_item_21 : decode cX9_item 21 = .ok (.ireturn, 1) := by decide +kernel
theorem dX9_item_22 : decode cX9_item 22 = .ok (.aload_n 0, 1) := by decide +kernel
theorem dX9_item_23 : decode cX9_item 23 = .ok (.iload_n 2, 1) := by decide +kernel
theorem dX9_item_24 : decode cX9_item 24 = .ok (.iconst 0, 1) := by decide +kernel
theorem dX9_item_25 : decode cX9_item 25 = .ok (.aload_n 0, 1) := by decide +kernel
theorem dX9_item_26 : decode cX9_item 26 = .ok (.getfield 193, 3) := by decide +kernel
theorem dX9_item_29 : decode cX9_item 29 = .ok (.iload_n 1, 1) := by decide +kernel
theorem dX9_item_30 : decode cX9_item 30 = .ok (.iaload, 1) := by decide +kernel
theorem dX9_item_31 : decode cX9_item 31 = .ok (.iconst 1, 1) := by decide +kernel
theorem dX9_item_32 : decode cX9_item 32 = .ok (.isub, 1) := by decide +kernel
theorem dX9_item_33 : decode cX9_item 33 = .ok (.invokevirtual 203, 3) := by decide +kernel
theorem dX9_item_36 : decode cX9_item 36 = .ok (.ifCond .ne 6, 3) := by decide +kernel
theorem dX9_item_39 : decode cX9_item 39 = .ok (.bipush (-13), 2) := by decide +kernel
theorem dX9_item_41 : decode cX9_item 41 = .ok (.ireturn, 1) := by decide +kernel
theorem dX9_item_42 : decode cX9_item 42 = .ok (.aload_n 0, 1) := by decide +kernel
theorem dX9_item_43 : decode cX9_item 43 = .ok (.getfield 196, 3) := by decide +kernel
theorem dX9_item_46 : decode cX9_item 46 = .ok (.bipush 60, 2) := by decide +kernel
theorem dX9_item_48 : decode cX9_item 48 = .ok (.iload_n 1, 1) := by decide +kernel
theorem dX9_item_49 : decode cX9_item 49 = .ok (.imul, 1) := by decide +kernel
theorem dX9_item_50 : decode cX9_item 50 = .ok (.iload_n 2, 1) := by decide +kernel
theorem dX9_item_51 : decode cX9_item 51 = .ok (.iadd, 1) := by decide +kernel
theorem dX9_item_52 : decode cX9_item 52 = .ok (.aload_n 0, 1) := by decide +kernel
theorem dX9_item_53 : decode cX9_item 53 = .ok (.aload_n 0, 1) := by decide +kernel
theorem dX9_item_54 : decode cX9_item 54 = .ok (.getfield 190, 3) := by decide +kernel
theorem dX9_item_57 : decode cX9_item 57 = .ok (.iload_n 1, 1) := by decide +kernel
theorem dX9_item_58 : decode cX9_item 58 = .ok (.iaload, 1) := by decide +kernel
theorem dX9_item_59 : decode cX9_item 59 = .ok (.lload_n 3, 1) := by decide +kernel
theorem dX9_item_60 : decode cX9_item 60 = .ok (.invokevirtual 399, 3) := by decide +kernel
theorem dX9_item_63 : decode cX9_item 63 = .ok (.lastore, 1) := by decide +kernel
theorem dX9_item_64 : decode cX9_item 64 = .ok (.iconst 1, 1) := by decide +kernel
theorem dX9_item_65 : decode cX9_item 65 = .ok (.ireturn, 1) := by decide +kernel
theorem dX9_read_0 : decode cX9_read 0 = .ok (.aload_n 0, 1) := by decide +kernel
theorem dX9_read_1 : decode cX9_read 1 = .ok (.iload_n 1, 1) := by decide +kernel
theorem dX9_read_2 : decode cX9_read 2 = .ok (.invokevirtual 372, 3) := by decide +kernel
theorem dX9_read_5 : decode cX9_read 5 = .ok (.ifCond .eq 29, 3) := by decide +kernel
theorem dX9_read_8 : decode cX9_read 8 = .ok (.aload_n 0, 1) := by decide +kernel
theorem dX9_read_9 : decode cX9_read 9 = .ok (.getfield 190, 3) := by decide +kernel
theorem dX9_read_12 : decode cX9_read 12 = .ok (.iload_n 1, 1) := by decide +kernel
theorem dX9_read_13 : decode cX9_read 13 = .ok (.iaload, 1) := by decide +kernel
theorem dX9_read_14 : decode cX9_read 14 = .ok (.ifCond .lt 20, 3) := by decide +kernel
theorem dX9_read_17 : decode cX9_read 17 = .ok (.aload_n 0, 1) := by decide +kernel
theorem dX9_read_18 : decode cX9_read 18 = .ok (.iload_n 2, 1) := by decide +kernel
theorem dX9_read_19 : decode cX9_read 19 = .ok (.iconst 0, 1) := by decide +kernel
theorem dX9_read_20 : decode cX9_read 20 = .ok (.aload_n 0, 1) := by decide +kernel
theorem dX9_read_21 : decode cX9_read 21 = .ok (.getfield 193, 3) := by decide +kernel
theorem dX9_read_24 : decode cX9_read 24 = .ok (.iload_n 1, 1) := by decide +kernel
theorem dX9_read_25 : decode cX9_read 25 = .ok (.iaload, 1) := by decide +kernel
theorem dX9_read_26 : decode cX9_read 26 = .ok (.iconst 1, 1) := by decide +kernel
theorem dX9_read_27 : decode cX9_read 27 = .ok (.isub, 1) := by decide +kernel
theorem dX9_read_28 : decode cX9_read 28 = .ok (.invokevirtual 203, 3) := by decide +kernel
theorem dX9_read_31 : decode cX9_read 31 = .ok (.ifCond .ne 9, 3) := by decide +kernel
theorem dX9_read_34 : decode cX9_read 34 = .ok (.ldc2_w 356, 3) := by decide +kernel
theorem dX9_read_37 : decode cX9_read 37 = .ok (.goto 14, 3) := by decide +kernel
theorem dX9_read_40 : decode cX9_read 40 = .ok (.aload_n 0, 1) := by decide +kernel
theorem dX9_read_41 : decode cX9_read 41 = .ok (.getfield 196, 3) := by decide +kernel
theorem dX9_read_44 : decode cX9_read 44 = .ok (.bipush 60, 2) := by decide +kernel
theorem dX9_read_46 : decode cX9_read 46 = .ok (.iload_n 1, 1) := by decide +kernel
theorem dX9_read_47 : decode cX9_read 47 = .ok (.imul, 1) := by decide +kernel
theorem dX9_read_48 : decode cX9_read 48 = .ok (.iload_n 2, 1) := by decide +kernel
theorem dX9_read_49 : decode cX9_read 49 = .ok (.iadd, 1) := by decide +kernel
theorem dX9_read_50 : decode cX9_read 50 = .ok (.laload, 1) := by decide +kernel
theorem dX9_read_51 : decode cX9_read 51 = .ok (.lreturn, 1) := by decide +kernel
theorem dX9_shift_0 : decode cX9_shift 0 = .ok (.aload_n 0, 1) := by decide +kernel
theorem dX9_shift_1 : decode cX9_shift 1 = .ok (.iload_n 1, 1) := by decide +kernel
theorem dX9_shift_2 : decode cX9_shift 2 = .ok (.invokevirtual 372, 3) := by decide +kernel
theorem dX9_shift_5 : decode cX9_shift 5 = .ok (.ifCond .eq 11, 3) := by decide +kernel
theorem dX9_shift_8 : decode cX9_shift 8 = .ok (.aload_n 0, 1) := by decide +kernel
theorem dX9_shift_9 : decode cX9_shift 9 = .ok (.iload_n 3, 1) := by decide +kernel
theorem dX9_shift_10 : decode cX9_shift 10 = .ok (.invokevirtual 372, 3) := by decide +kernel
theorem dX9_shift_13 : decode cX9_shift 13 = .ok (.ifCond .ne 5, 3) := by decide +kernel
theorem dX9_shift_16 : decode cX9_shift 16 = .ok (.iconst (-1), 1) := by decide +kernel
theorem dX9_shift_17 : decode cX9_shift 17 = .ok (.ireturn, 1) := by decide +kernel
theorem dX9_shift_18 : decode cX9_shift 18 = .ok (.aload_n 0, 1) := by decide +kernel
theorem dX9_shift_19 : decode cX9_shift 19 = .ok (.getfield 190, 3) := by decide +kernel
theorem dX9_shift_22 : decode cX9_shift 22 = .ok (.iload_n 1, 1) := by decide +kernel
theorem dX9_shift_23 : decode cX9_shift 23 = .ok (.iaload, 1) := by decide +kernel
theorem dX9_shift_24 : decode cX9_shift 24 = .ok (.ifCond .lt 12, 3) := by decide +kernel
theorem dX9_shift_27 : decode cX9_shift 27 = .ok (.aload_n 0, 1) := by decide +kernel
theorem dX9_shift_28 : decode cX9_shift 28 = .ok (.getfield 190, 3) := by decide +kernel
theorem dX9_shift_31 : decode cX9_shift 31 = .ok (.iload_n 3, 1) := by decide +kernel
theorem dX9_shift_32 : decode cX9_shift 32 = .ok (.iaload, 1) := by decide +kernel
theorem dX9_shift_33 : decode cX9_shift 33 = .ok (.ifCond .ge 6, 3) := by decide +kernel
theorem dX9_shift_36 : decode cX9_shift 36 = .ok (.bipush (-11), 2) := by decide +kernel
theorem dX9_shift_38 : decode cX9_shift 38 = .ok (.ireturn, 1) := by decide +kernel
theorem dX9_shift_39 : decode cX9_shift 39 = .ok (.aload_n 0, 1) := by decide +kernel
theorem dX9_shift_40 : decode cX9_shift 40 = .ok (.getfield 190, 3) := by decide +kernel
theorem dX9_shift_43 : decode cX9_shift 43 = .ok (.iload_n 1, 1) := by decide +kernel
theorem dX9_shift_44 : decode cX9_shift 44 = .ok (.iaload, 1) := by decide +kernel
theorem dX9_shift_45 : decode cX9_shift 45 = .ok (.aload_n 0, 1) := by decide +kernel
theorem dX9_shift_46 : decode cX9_shift 46 = .ok (.getfield 190, 3) := by decide +kernel
theorem dX9_shift_49 : decode cX9_shift 49 = .ok (.iload_n 3, 1) := by decide +kernel
theorem dX9_shift_50 : decode cX9_shift 50 = .ok (.iaload, 1) := by decide +kernel
theorem dX9_shift_51 : decode cX9_shift 51 = .ok (.if_icmp .eq 6, 3) := by decide +kernel
theorem dX9_shift_54 : decode cX9_shift 54 = .ok (.bipush (-12), 2) := by decide +kernel
theorem dX9_shift_56 : decode cX9_shift 56 = .ok (.ireturn, 1) := by decide +kernel
theorem dX9_shift_57 : decode cX9_shift 57 = .ok (.iload 5, 2) := by decide +kernel
theorem dX9_shift_59 : decode cX9_shift 59 = .ok (.ifCond .lt 39, 3) := by decide +kernel
theorem dX9_shift_62 : decode cX9_shift 62 = .ok (.iload_n 2, 1) := by decide +kernel
theorem dX9_shift_63 : decode cX9_shift 63 = .ok (.ifCond .lt 35, 3) := by decide +kernel
theorem dX9_shift_66 : decode cX9_shift 66 = .ok (.iload 4, 2) := by decide +kernel
theorem dX9_shift_68 : decode cX9_shift 68 = .ok (.ifCond .lt 30, 3) := by decide +kernel
theorem dX9_shift_71 : decode cX9_shift 71 = .ok (.iload_n 2, 1) := by decide +kernel
theorem dX9_shift_72 : decode cX9_shift 72 = .ok (.aload_n 0, 1) := by decide +kernel
theorem dX9_shift_73 : decode cX9_shift 73 = .ok (.getfield 193, 3) := by decide +kernel
theorem dX9_shift_76 : decode cX9_shift 76 = .ok (.iload_n 1, 1) := by decide +kernel
theorem dX9_shift_77 : decode cX9_shift 77 = .ok (.iaload, 1) := by decide +kernel
theorem dX9_shift_78 : decode cX9_shift 78 = .ok (.iload 5, 2) := by decide +kernel
theorem dX9_shift_80 : decode cX9_shift 80 = .ok (.isub, 1) := by decide +kernel
theorem dX9_shift_81 : decode cX9_shift 81 = .ok (.if_icmp .gt 17, 3) := by decide +kernel
theorem dX9_shift_84 : decode cX9_shift 84 = .ok (.iload 4, 2) := by decide +kernel
theorem dX9_shift_86 : decode cX9_shift 86 = .ok (.aload_n 0, 1) := by decide +kernel
theorem dX9_shift_87 : decode cX9_shift 87 = .ok (.getfield 193, 3) := by decide +kernel
theorem dX9_shift_90 : decode cX9_shift 90 = .ok (.iload_n 3, 1) := by decide +kernel
theorem dX9_shift_91 : decode cX9_shift 91 = .ok (.iaload, 1) := by decide +kernel
theorem dX9_shift_92 : decode cX9_shift 92 = .ok (.iload 5, 2) := by decide +kernel
theorem dX9_shift_94 : decode cX9_shift 94 = .ok (.isub, 1) := by decide +kernel
theorem dX9_shift_95 : decode cX9_shift 95 = .ok (.if_icmp .le 6, 3) := by decide +kernel
theorem dX9_shift_98 : decode cX9_shift 98 = .ok (.bipush (-13), 2) := by decide +kernel
theorem dX9_shift_100 : decode cX9_shift 100 = .ok (.ireturn, 1) := by decide +kernel
theorem dX9_shift_101 : decode cX9_shift 101 = .ok (.iconst 0, 1) := by decide +kernel
theorem dX9_shift_102 : decode cX9_shift 102 = .ok (.istore 6, 2) := by decide +kernel
theorem dX9_shift_104 : decode cX9_shift 104 = .ok (.iload 6, 2) := by decide +kernel
theorem dX9_shift_106 : decode cX9_shift 106 = .ok (.iload 5, 2) := by decide +kernel
theorem dX9_shift_108 : decode cX9_shift 108 = .ok (.if_icmp .ge 30, 3) := by decide +kernel
theorem dX9_shift_111 : decode cX9_shift 111 = .ok (.aload_n 0, 1) := by decide +kernel
theorem dX9_shift_112 : decode cX9_shift 112 = .ok (.getfield 200, 3) := by decide +kernel
theorem dX9_shift_115 : decode cX9_shift 115 = .ok (.iload 6, 2) := by decide +kernel
theorem dX9_shift_117 : decode cX9_shift 117 = .ok (.aload_n 0, 1) := by decide +kernel
theorem dX9_shift_118 : decode cX9_shift 118 = .ok (.getfield 196, 3) := by decide +kernel
theorem dX9_shift_121 : decode cX9_shift 121 = .ok (.bipush 60, 2) := by decide +kernel
theorem dX9_shift_123 : decode cX9_shift 123 = .ok (.iload_n 1, 1) := by decide +kernel
theorem dX9_shift_124 : decode cX9_shift 124 = .ok (.imul, 1) := by decide +kernel
theorem dX9_shift_125 : decode cX9_shift 125 = .ok (.iload_n 2, 1) := by decide +kernel
theorem dX9_shift_126 : decode cX9_shift 126 = .ok (.iadd, 1) := by decide +kernel
theorem dX9_shift_127 : decode cX9_shift 127 = .ok (.iload 6, 2) := by decide +kernel
theorem dX9_shift_129 : decode cX9_shift 129 = .ok (.iadd, 1) := by decide +kernel
theorem dX9_shift_130 : decode cX9_shift 130 = .ok (.laload, 1) := by decide +kernel
theorem dX9_shift_131 : decode cX9_shift 131 = .ok (.lastore, 1) := by decide +kernel
theorem dX9_shift_132 : decode cX9_shift 132 = .ok (.iinc 6 1, 3) := by decide +kernel
theorem dX9_shift_135 : decode cX9_shift 135 = .ok (.goto (-31), 3) := by decide +kernel
theorem dX9_shift_138 : decode cX9_shift 138 = .ok (.iconst 0, 1) := by decide +kernel
theorem dX9_shift_139 : decode cX9_shift 139 = .ok (.istore 6, 2) := by decide +kernel
theorem dX9_shift_141 : decode cX9_shift 141 = .ok (.iload 6, 2) := by decide +kernel
theorem dX9_shift_143 : decode cX9_shift 143 = .ok (.iload 5, 2) := by decide +kernel
theorem dX9_shift_145 : decode cX9_shift 145 = .ok (.if_icmp .ge 31, 3) := by decide +kernel
theorem dX9_shift_148 : decode cX9_shift 148 = .ok (.aload_n 0, 1) := by decide +kernel
theorem dX9_shift_149 : decode cX9_shift 149 = .ok (.getfield 196, 3) := by decide +kernel
theorem dX9_shift_152 : decode cX9_shift 152 = .ok (.bipush 60, 2) := by decide +kernel
theorem dX9_shift_154 : decode cX9_shift 154 = .ok (.iload_n 3, 1) := by decide +kernel
theorem dX9_shift_155 : decode cX9_shift 155 = .ok (.imul, 1) := by decide +kernel
theorem dX9_shift_156 : decode cX9_shift 156 = .ok (.iload 4, 2) := by decide +kernel
theorem dX9_shift_158 : decode cX9_shift 158 = .ok (.iadd, 1) := by decide +kernel
theorem dX9_shift_159 : decode cX9_shift 159 = .ok (.iload 6, 2) := by decide +kernel
theorem dX9_shift_161 : decode cX9_shift 161 = .ok (.iadd, 1) := by decide +kernel
theorem dX9_shift_162 : decode cX9_shift 162 = .ok (.aload_n 0, 1) := by decide +kernel
theorem dX9_shift_163 : decode cX9_shift 163 = .ok (.getfield 200, 3) := by decide +kernel
theorem dX9_shift_166 : decode cX9_shift 166 = .ok (.iload 6, 2) := by decide +kernel
theorem dX9_shift_168 : decode cX9_shift 168 = .ok (.laload, 1) := by decide +kernel
theorem dX9_shift_169 : decode cX9_shift 169 = .ok (.lastore, 1) := by decide +kernel
theorem dX9_shift_170 : decode cX9_shift 170 = .ok (.iinc 6 1, 3) := by decide +kernel
theorem dX9_shift_173 : decode cX9_shift 173 = .ok (.goto (-32), 3) := by decide +kernel
theorem dX9_shift_176 : decode cX9_shift 176 = .ok (.iload 5, 2) := by decide +kernel
theorem dX9_shift_178 : decode cX9_shift 178 = .ok (.ireturn, 1) := by decide +kernel
theorem dJ9_abs_0f7a4_0 : decode cJ9_abs_0f7a4 0 = .ok (.iload_n 0, 1) := by decide +kernel
theorem dJ9_abs_0f7a4_1 : decode cJ9_abs_0f7a4 1 = .ok (.ifCond .ge 8, 3) := by decide +kernel
theorem dJ9_abs_0f7a4_4 : decode cJ9_abs_0f7a4 4 = .ok (.iload_n 0, 1) := by decide +kernel
theorem dJ9_abs_0f7a4_5 : decode cJ9_abs_0f7a4 5 = .ok (.ineg, 1) := by decide +kernel
theorem dJ9_abs_0f7a4_6 : decode cJ9_abs_0f7a4 6 = .ok (.goto 4, 3) := by decide +kernel
theorem dJ9_abs_0f7a4_9 : decode cJ9_abs_0f7a4 9 = .ok (.iload_n 0, 1) := by decide +kernel
theorem dJ9_abs_0f7a4_10 : decode cJ9_abs_0f7a4 10 = .ok (.ireturn, 1) := by decide +kernel
theorem dJ9_max_7cf53_0 : decode cJ9_max_7cf53 0 = .ok (.iload_n 0, 1) := by decide +kernel
theorem dJ9_max_7cf53_1 : decode cJ9_max_7cf53 1 = .ok (.iload_n 1, 1) := by decide +kernel
theorem dJ9_max_7cf53_2 : decode cJ9_max_7cf53 2 = .ok (.if_icmp .lt 7, 3) := by decide +kernel
theorem dJ9_max_7cf53_5 : decode cJ9_max_7cf53 5 = .ok (.iload_n 0, 1) := by decide +kernel
theorem dJ9_max_7cf53_6 : decode cJ9_max_7cf53 6 = .ok (.goto 4, 3) := by decide +kernel
theorem dJ9_max_7cf53_9 : decode cJ9_max_7cf53 9 = .ok (.iload_n 1, 1) := by decide +kernel
theorem dJ9_max_7cf53_10 : decode cJ9_max_7cf53 10 = .ok (.ireturn, 1) := by decide +kernel
theorem dJ9_min_7cf53_0 : decode cJ9_min_7cf53 0 = .ok (.iload_n 0, 1) := by decide +kernel
theorem dJ9_min_7cf53_1 : decode cJ9_min_7cf53 1 = .ok (.iload_n 1, 1) := by decide +kernel
theorem dJ9_min_7cf53_2 : decode cJ9_min_7cf53 2 = .ok (.if_icmp .gt 7, 3) := by decide +kernel
theorem dJ9_min_7cf53_5 : decode cJ9_min_7cf53 5 = .ok (.iload_n 0, 1) := by decide +kernel
theorem dJ9_min_7cf53_6 : decode cJ9_min_7cf53 6 = .ok (.goto 4, 3) := by decide +kernel
theorem dJ9_min_7cf53_9 : decode cJ9_min_7cf53 9 = .ok (.iload_n 1, 1) := by decide +kernel
theorem dJ9_min_7cf53_10 : decode cJ9_min_7cf53 10 = .ok (.ireturn, 1) := by decide +kernel
theorem dJ0_length_8abf5_0 : decode cJ0_length_8abf5 0 = .ok (.aload_n 0, 1) := by decide +kernel
theorem dJ0_length_8abf5_1 : decode cJ0_length_8abf5 1 = .ok (.getfield 9, 3) := by decide +kernel
theorem dJ0_length_8abf5_4 : decode cJ0_length_8abf5 4 = .ok (.arraylength, 1) := by decide +kernel
theorem dJ0_length_8abf5_5 : decode cJ0_length_8abf5 5 = .ok (.aload_n 0, 1) := by decide +kernel
theorem dJ0_length_8abf5_6 : decode cJ0_length_8abf5 6 = .ok (.invokevirtual 335, 3) := by decide +kernel
theorem dJ0_length_8abf5_9 : decode cJ0_length_8abf5 9 = .ok (.ishr, 1) := by decide +kernel
theorem dJ0_length_8abf5_10 : decode cJ0_length_8abf5 10 = .ok (.ireturn, 1) := by decide +kernel
theorem dJ0_charAt_5068e_0 : decode cJ0_charAt_5068e 0 = .ok (.aload_n 0, 1) := by decide +kernel
theorem dJ0_charAt_5068e_1 : decode cJ0_charAt_5068e 1 = .ok (.invokevirtual 492, 3) := by decide +kernel
theorem dJ0_charAt_5068e_4 : decode cJ0_charAt_5068e 4 = .ok (.ifCond .eq 12, 3) := by decide +kernel
theorem dJ0_charAt_5068e_7 : decode cJ0_charAt_5068e 7 = .ok (.aload_n 0, 1) := by decide +kernel
theorem dJ0_charAt_5068e_8 : decode cJ0_charAt_5068e 8 = .ok (.getfield 9, 3) := by decide +kernel
theorem dJ0_charAt_5068e_11 : decode cJ0_charAt_5068e 11 = .ok (.iload_n 1, 1) := by decide +kernel
theorem dJ0_charAt_5068e_12 : decode cJ0_charAt_5068e 12 = .ok (.invokestatic 495, 3) := by decide +kernel
theorem dJ0_charAt_5068e_15 : decode cJ0_charAt_5068e 15 = .ok (.ireturn, 1) := by decide +kernel
theorem dJ0_charAt_5068e_16 : decode cJ0_charAt_5068e 16 = .ok (.aload_n 0, 1) := by decide +kernel
theorem dJ0_charAt_5068e_17 : decode cJ0_charAt_5068e 17 = .ok (.getfield 9, 3) := by decide +kernel
theorem dJ0_charAt_5068e_20 : decode cJ0_charAt_5068e 20 = .ok (.iload_n 1, 1) := by decide +kernel
theorem dJ0_charAt_5068e_21 : decode cJ0_charAt_5068e 21 = .ok (.invokestatic 498, 3) := by decide +kernel
theorem dJ0_charAt_5068e_24 : decode cJ0_charAt_5068e 24 = .ok (.ireturn, 1) := by decide +kernel
theorem dJ0_indexOf_0f7a4_0 : decode cJ0_indexOf_0f7a4 0 = .ok (.aload_n 0, 1) := by decide +kernel
theorem dJ0_indexOf_0f7a4_1 : decode cJ0_indexOf_0f7a4 1 = .ok (.iload_n 1, 1) := by decide +kernel
theorem dJ0_indexOf_0f7a4_2 : decode cJ0_indexOf_0f7a4 2 = .ok (.iconst 0, 1) := by decide +kernel
theorem dJ0_indexOf_0f7a4_3 : decode cJ0_indexOf_0f7a4 3 = .ok (.invokevirtual 633, 3) := by decide +kernel
theorem dJ0_indexOf_0f7a4_6 : decode cJ0_indexOf_0f7a4 6 = .ok (.ireturn, 1) := by decide +kernel
theorem dJ0_indexOf_7cf53_0 : decode cJ0_indexOf_7cf53 0 = .ok (.aload_n 0, 1) := by decide +kernel
theorem dJ0_indexOf_7cf53_1 : decode cJ0_indexOf_7cf53 1 = .ok (.invokevirtual 492, 3) := by decide +kernel
theorem dJ0_indexOf_7cf53_4 : decode cJ0_indexOf_7cf53 4 = .ok (.ifCond .eq 19, 3) := by decide +kernel
theorem dJ0_indexOf_7cf53_7 : decode cJ0_indexOf_7cf53 7 = .ok (.aload_n 0, 1) := by decide +kernel
theorem dJ0_indexOf_7cf53_8 : decode cJ0_indexOf_7cf53 8 = .ok (.getfield 9, 3) := by decide +kernel
theorem dJ0_indexOf_7cf53_11 : decode cJ0_indexOf_7cf53 11 = .ok (.iload_n 1, 1) := by decide +kernel
theorem dJ0_indexOf_7cf53_12 : decode cJ0_indexOf_7cf53 12 = .ok (.iload_n 2, 1) := by decide +kernel
theorem dJ0_indexOf_7cf53_13 : decode cJ0_indexOf_7cf53 13 = .ok (.aload_n 0, 1) := by decide +kernel
theorem dJ0_indexOf_7cf53_14 : decode cJ0_indexOf_7cf53 14 = .ok (.invokevirtual 505, 3) := by decide +kernel
theorem dJ0_indexOf_7cf53_17 : decode cJ0_indexOf_7cf53 17 = .ok (.invokestatic 637, 3) := by decide +kernel
theorem dJ0_indexOf_7cf53_20 : decode cJ0_indexOf_7cf53 20 = .ok (.goto 16, 3) := by decide +kernel
theorem dJ0_indexOf_7cf53_23 : decode cJ0_indexOf_7cf53 23 = .ok (.aload_n 0, 1) := by decide +kernel
theorem dJ0_indexOf_7cf53_24 : decode cJ0_indexOf_7cf53 24 = .ok (.getfield 9, 3) := by decide +kernel
theorem dJ0_indexOf_7cf53_27 : decode cJ0_indexOf_7cf53 27 = .ok (.iload_n 1, 1) := by decide +kernel
theorem dJ0_indexOf_7cf53_28 : decode cJ0_indexOf_7cf53 28 = .ok (.iload_n 2, 1) := by decide +kernel
theorem dJ0_indexOf_7cf53_29 : decode cJ0_indexOf_7cf53 29 = .ok (.aload_n 0, 1) := by decide +kernel
theorem dJ0_indexOf_7cf53_30 : decode cJ0_indexOf_7cf53 30 = .ok (.invokevirtual 505, 3) := by decide +kernel
theorem dJ0_indexOf_7cf53_33 : decode cJ0_indexOf_7cf53 33 = .ok (.invokestatic 640, 3) := by decide +kernel
theorem dJ0_indexOf_7cf53_36 : decode cJ0_indexOf_7cf53 36 = .ok (.ireturn, 1) := by decide +kernel
theorem dJ0_coder_7d493_0 : decode cJ0_coder_7d493 0 = .ok (.getstatic 38, 3) := by decide +kernel
theorem dJ0_coder_7d493_3 : decode cJ0_coder_7d493 3 = .ok (.ifCond .eq 10, 3) := by decide +kernel
theorem dJ0_coder_7d493_6 : decode cJ0_coder_7d493 6 = .ok (.aload_n 0, 1) := by decide +kernel
theorem dJ0_coder_7d493_7 : decode cJ0_coder_7d493 7 = .ok (.getfield 15, 3) := by decide +kernel
theorem dJ0_coder_7d493_10 : decode cJ0_coder_7d493 10 = .ok (.goto 4, 3) := by decide +kernel
theorem dJ0_coder_7d493_13 : decode cJ0_coder_7d493 13 = .ok (.iconst 1, 1) := by decide +kernel
theorem dJ0_coder_7d493_14 : decode cJ0_coder_7d493 14 = .ok (.ireturn, 1) := by decide +kernel
theorem dJ0_isLatin1_aae02_0 : decode cJ0_isLatin1_aae02 0 = .ok (.getstatic 38, 3) := by decide +kernel
theorem dJ0_isLatin1_aae02_3 : decode cJ0_isLatin1_aae02 3 = .ok (.ifCond .eq 14, 3) := by decide +kernel
theorem dJ0_isLatin1_aae02_6 : decode cJ0_isLatin1_aae02 6 = .ok (.aload_n 0, 1) := by decide +kernel
theorem dJ0_isLatin1_aae02_7 : decode cJ0_isLatin1_aae02 7 = .ok (.getfield 15, 3) := by decide +kernel
theorem dJ0_isLatin1_aae02_10 : decode cJ0_isLatin1_aae02 10 = .ok (.ifCond .ne 7, 3) := by decide +kernel
theorem dJ0_isLatin1_aae02_13 : decode cJ0_isLatin1_aae02 13 = .ok (.iconst 1, 1) := by decide +kernel
theorem dJ0_isLatin1_aae02_14 : decode cJ0_isLatin1_aae02 14 = .ok (.goto 4, 3) := by decide +kernel
theorem dJ0_isLatin1_aae02_17 : decode cJ0_isLatin1_aae02 17 = .ok (.iconst 0, 1) := by decide +kernel
theorem dJ0_isLatin1_aae02_18 : decode cJ0_isLatin1_aae02 18 = .ok (.ireturn, 1) := by decide +kernel
theorem dJ0_checkIndex_df160_0 : decode cJ0_checkIndex_df160 0 = .ok (.iload_n 0, 1) := by decide +kernel
theorem dJ0_checkIndex_df160_1 : decode cJ0_checkIndex_df160 1 = .ok (.iload_n 1, 1) := by decide +kernel
theorem dJ0_checkIndex_df160_2 : decode cJ0_checkIndex_df160 2 = .ok (.getstatic 1053, 3) := by decide +kernel
theorem dJ0_checkIndex_df160_5 : decode cJ0_checkIndex_df160 5 = .ok (.invokestatic 1059, 3) := by decide +kernel
theorem dJ0_checkIndex_df160_8 : decode cJ0_checkIndex_df160 8 = .ok (.pop, 1) := by decide +kernel
theorem dJ0_checkIndex_df160_9 : decode cJ0_checkIndex_df160 9 = .ok (.return_, 1) := by decide +kernel
theorem dJ1_charAt_3b067_0 : decode cJ1_charAt_3b067 0 = .ok (.iload_n 1, 1) := by decide +kernel
theorem dJ1_charAt_3b067_1 : decode cJ1_charAt_3b067 1 = .ok (.aload_n 0, 1) := by decide +kernel
theorem dJ1_charAt_3b067_2 : decode cJ1_charAt_3b067 2 = .ok (.arraylength, 1) := by decide +kernel
theorem dJ1_charAt_3b067_3 : decode cJ1_charAt_3b067 3 = .ok (.invokestatic 9, 3) := by decide +kernel
theorem dJ1_charAt_3b067_6 : decode cJ1_charAt_3b067 6 = .ok (.aload_n 0, 1) := by decide +kernel
theorem dJ1_charAt_3b067_7 : decode cJ1_charAt_3b067 7 = .ok (.iload_n 1, 1) := by decide +kernel
theorem dJ1_charAt_3b067_8 : decode cJ1_charAt_3b067 8 = .ok (.baload, 1) := by decide +kernel
theorem dJ1_charAt_3b067_9 : decode cJ1_charAt_3b067 9 = .ok (.sipush 255, 3) := by decide +kernel
theorem dJ1_charAt_3b067_12 : decode cJ1_charAt_3b067 12 = .ok (.iand, 1) := by decide +kernel
theorem dJ1_charAt_3b067_13 : decode cJ1_charAt_3b067 13 = .ok (.i2c, 1) := by decide +kernel
theorem dJ1_charAt_3b067_14 : decode cJ1_charAt_3b067 14 = .ok (.ireturn, 1) := by decide +kernel
theorem dJ1_canEncode_9a6ad_0 : decode cJ1_canEncode_9a6ad 0 = .ok (.iload_n 0, 1) := by decide +kernel
theorem dJ1_canEncode_9a6ad_1 : decode cJ1_canEncode_9a6ad 1 = .ok (.ifCond .lt 14, 3) := by decide +kernel
theorem dJ1_canEncode_9a6ad_4 : decode cJ1_canEncode_9a6ad 4 = .ok (.iload_n 0, 1) := by decide +kernel
theorem dJ1_canEncode_9a6ad_5 : decode cJ1_canEncode_9a6ad 5 = .ok (.sipush 255, 3) := by decide +kernel
theorem dJ1_canEncode_9a6ad_8 : decode cJ1_canEncode_9a6ad 8 = .ok (.if_icmp .gt 7, 3) := by decide +kernel
theorem dJ1_canEncode_9a6ad_11 : decode cJ1_canEncode_9a6ad 11 = .ok (.iconst 1, 1) := by decide +kernel
theorem dJ1_canEncode_9a6ad_12 : decode cJ1_canEncode_9a6ad 12 = .ok (.goto 4, 3) := by decide +kernel
theorem dJ1_canEncode_9a6ad_15 : decode cJ1_canEncode_9a6ad 15 = .ok (.iconst 0, 1) := by decide +kernel
theorem dJ1_canEncode_9a6ad_16 : decode cJ1_canEncode_9a6ad 16 = .ok (.ireturn, 1) := by decide +kernel
theorem dJ1_indexOf_4cfef_0 : decode cJ1_indexOf_4cfef 0 = .ok (.iload_n 1, 1) := by decide +kernel
theorem dJ1_indexOf_4cfef_1 : decode cJ1_indexOf_4cfef 1 = .ok (.invokestatic 88, 3) := by decide +kernel
theorem dJ1_indexOf_4cfef_4 : decode cJ1_indexOf_4cfef 4 = .ok (.ifCond .ne 5, 3) := by decide +kernel
theorem dJ1_indexOf_4cfef_7 : decode cJ1_indexOf_4cfef 7 = .ok (.iconst (-1), 1) := by decide +kernel
theorem dJ1_indexOf_4cfef_8 : decode cJ1_indexOf_4cfef 8 = .ok (.ireturn, 1) := by decide +kernel
theorem dJ1_indexOf_4cfef_9 : decode cJ1_indexOf_4cfef 9 = .ok (.iload_n 2, 1) := by decide +kernel
theorem dJ1_indexOf_4cfef_10 : decode cJ1_indexOf_4cfef 10 = .ok (.iconst 0, 1) := by decide +kernel
theorem dJ1_indexOf_4cfef_11 : decode cJ1_indexOf_4cfef 11 = .ok (.invokestatic 92, 3) := by decide +kernel
theorem dJ1_indexOf_4cfef_14 : decode cJ1_indexOf_4cfef 14 = .ok (.istore_n 2, 1) := by decide +kernel
theorem dJ1_indexOf_4cfef_15 : decode cJ1_indexOf_4cfef 15 = .ok (.iload_n 3, 1) := by decide +kernel
theorem dJ1_indexOf_4cfef_16 : decode cJ1_indexOf_4cfef 16 = .ok (.aload_n 0, 1) := by decide +kernel
theorem dJ1_indexOf_4cfef_17 : decode cJ1_indexOf_4cfef 17 = .ok (.arraylength, 1) := by decide +kernel
theorem dJ1_indexOf_4cfef_18 : decode cJ1_indexOf_4cfef 18 = .ok (.invokestatic 38, 3) := by decide +kernel
theorem dJ1_indexOf_4cfef_21 : decode cJ1_indexOf_4cfef 21 = .ok (.istore_n 3, 1) := by decide +kernel
theorem dJ1_indexOf_4cfef_22 : decode cJ1_indexOf_4cfef 22 = .ok (.iload_n 2, 1) := by decide +kernel
theorem dJ1_indexOf_4cfef_23 : decode cJ1_indexOf_4cfef 23 = .ok (.iload_n 3, 1) := by decide +kernel
theorem dJ1_indexOf_4cfef_24 : decode cJ1_indexOf_4cfef 24 = .ok (.if_icmp .lt 5, 3) := by decide +kernel
theorem dJ1_indexOf_4cfef_27 : decode cJ1_indexOf_4cfef 27 = .ok (.iconst (-1), 1) := by decide +kernel
theorem dJ1_indexOf_4cfef_28 : decode cJ1_indexOf_4cfef 28 = .ok (.ireturn, 1) := by decide +kernel
theorem dJ1_indexOf_4cfef_29 : decode cJ1_indexOf_4cfef 29 = .ok (.aload_n 0, 1) := by decide +kernel
theorem dJ1_indexOf_4cfef_30 : decode cJ1_indexOf_4cfef 30 = .ok (.iload_n 1, 1) := by decide +kernel
theorem dJ1_indexOf_4cfef_31 : decode cJ1_indexOf_4cfef 31 = .ok (.iload_n 2, 1) := by decide +kernel
theorem dJ1_indexOf_4cfef_32 : decode cJ1_indexOf_4cfef 32 = .ok (.iload_n 3, 1) := by decide +kernel
theorem dJ1_indexOf_4cfef_33 : decode cJ1_indexOf_4cfef 33 = .ok (.invokestatic 95, 3) := by decide +kernel
theorem dJ1_indexOf_4cfef_36 : decode cJ1_indexOf_4cfef 36 = .ok (.ireturn, 1) := by decide +kernel
theorem dJ1_indexOfChar_4cfef_0 : decode cJ1_indexOfChar_4cfef 0 = .ok (.iload_n 1, 1) := by decide +kernel
theorem dJ1_indexOfChar_4cfef_1 : decode cJ1_indexOfChar_4cfef 1 = .ok (.i2b, 1) := by decide +kernel
theorem dJ1_indexOfChar_4cfef_2 : decode cJ1_indexOfChar_4cfef 2 = .ok (.istore 4, 2) := by decide +kernel
theorem dJ1_indexOfChar_4cfef_4 : decode cJ1_indexOfChar_4cfef 4 = .ok (.iload_n 2, 1) := by decide +kernel
theorem dJ1_indexOfChar_4cfef_5 : decode cJ1_indexOfChar_4cfef 5 = .ok (.istore 5, 2) := by decide +kernel
theorem dJ1_indexOfChar_4cfef_7 : decode cJ1_indexOfChar_4cfef 7 = .ok (.iload 5, 2) := by decide +kernel
theorem dJ1_indexOfChar_4cfef_9 : decode cJ1_indexOfChar_4cfef 9 = .ok (.iload_n 3, 1) := by decide +kernel
theorem dJ1_indexOfChar_4cfef_10 : decode cJ1_indexOfChar_4cfef 10 = .ok (.if_icmp .ge 21, 3) := by decide +kernel
theorem dJ1_indexOfChar_4cfef_13 : decode cJ1_indexOfChar_4cfef 13 = .ok (.aload_n 0, 1) := by decide +kernel
theorem dJ1_indexOfChar_4cfef_14 : decode cJ1_indexOfChar_4cfef 14 = .ok (.iload 5, 2) := by decide +kernel
theorem dJ1_indexOfChar_4cfef_16 : decode cJ1_indexOfChar_4cfef 16 = .ok (.baload, 1) := by decide +kernel
theorem dJ1_indexOfChar_4cfef_17 : decode cJ1_indexOfChar_4cfef 17 = .ok (.iload 4, 2) := by decide +kernel
theorem dJ1_indexOfChar_4cfef_19 : decode cJ1_indexOfChar_4cfef 19 = .ok (.if_icmp .ne 6, 3) := by decide +kernel
theorem dJ1_indexOfChar_4cfef_22 : decode cJ1_indexOfChar_4cfef 22 = .ok (.iload 5, 2) := by decide +kernel
theorem dJ1_indexOfChar_4cfef_24 : decode cJ1_indexOfChar_4cfef 24 = .ok (.ireturn, 1) := by decide +kernel
theorem dJ1_indexOfChar_4cfef_25 : decode cJ1_indexOfChar_4cfef 25 = .ok (.iinc 5 1, 3) := by decide +kernel
theorem dJ1_indexOfChar_4cfef_28 : decode cJ1_indexOfChar_4cfef 28 = .ok (.goto (-21), 3) := by decide +kernel
theorem dJ1_indexOfChar_4cfef_31 : decode cJ1_indexOfChar_4cfef 31 = .ok (.iconst (-1), 1) := by decide +kernel
theorem dJ1_indexOfChar_4cfef_32 : decode cJ1_indexOfChar_4cfef 32 = .ok (.ireturn, 1) := by decide +kernel
theorem dJ7_fill_d0a16_0 : decode cJ7_fill_d0a16 0 = .ok (.iconst 0, 1) := by decide +kernel
theorem dJ7_fill_d0a16_1 : decode cJ7_fill_d0a16 1 = .ok (.istore_n 3, 1) := by decide +kernel
theorem dJ7_fill_d0a16_2 : decode cJ7_fill_d0a16 2 = .ok (.aload_n 0, 1) := by decide +kernel
theorem dJ7_fill_d0a16_3 : decode cJ7_fill_d0a16 3 = .ok (.arraylength, 1) := by decide +kernel
theorem dJ7_fill_d0a16_4 : decode cJ7_fill_d0a16 4 = .ok (.istore 4, 2) := by decide +kernel
theorem dJ7_fill_d0a16_6 : decode cJ7_fill_d0a16 6 = .ok (.iload_n 3, 1) := by decide +kernel
theorem dJ7_fill_d0a16_7 : decode cJ7_fill_d0a16 7 = .ok (.iload 4, 2) := by decide +kernel
theorem dJ7_fill_d0a16_9 : decode cJ7_fill_d0a16 9 = .ok (.if_icmp .ge 13, 3) := by decide +kernel
theorem dJ7_fill_d0a16_12 : decode cJ7_fill_d0a16 12 = .ok (.aload_n 0, 1) := by decide +kernel
theorem dJ7_fill_d0a16_13 : decode cJ7_fill_d0a16 13 = .ok (.iload_n 3, 1) := by decide +kernel
theorem dJ7_fill_d0a16_14 : decode cJ7_fill_d0a16 14 = .ok (.lload_n 1, 1) := by decide +kernel
theorem dJ7_fill_d0a16_15 : decode cJ7_fill_d0a16 15 = .ok (.lastore, 1) := by decide +kernel
theorem dJ7_fill_d0a16_16 : decode cJ7_fill_d0a16 16 = .ok (.iinc 3 1, 3) := by decide +kernel
theorem dJ7_fill_d0a16_19 : decode cJ7_fill_d0a16 19 = .ok (.goto (-13), 3) := by decide +kernel
theorem dJ7_fill_d0a16_22 : decode cJ7_fill_d0a16 22 = .ok (.return_, 1) := by decide +kernel
theorem dJ7_fill_53178_0 : decode cJ7_fill_53178 0 = .ok (.iconst 0, 1) := by decide +kernel
theorem dJ7_fill_53178_1 : decode cJ7_fill_53178 1 = .ok (.istore_n 2, 1) := by decide +kernel
theorem dJ7_fill_53178_2 : decode cJ7_fill_53178 2 = .ok (.aload_n 0, 1) := by decide +kernel
theorem dJ7_fill_53178_3 : decode cJ7_fill_53178 3 = .ok (.arraylength, 1) := by decide +kernel
theorem dJ7_fill_53178_4 : decode cJ7_fill_53178 4 = .ok (.istore_n 3, 1) := by decide +kernel
theorem dJ7_fill_53178_5 : decode cJ7_fill_53178 5 = .ok (.iload_n 2, 1) := by decide +kernel
theorem dJ7_fill_53178_6 : decode cJ7_fill_53178 6 = .ok (.iload_n 3, 1) := by decide +kernel
theorem dJ7_fill_53178_7 : decode cJ7_fill_53178 7 = .ok (.if_icmp .ge 13, 3) := by decide +kernel
theorem dJ7_fill_53178_10 : decode cJ7_fill_53178 10 = .ok (.aload_n 0, 1) := by decide +kernel
theorem dJ7_fill_53178_11 : decode cJ7_fill_53178 11 = .ok (.iload_n 2, 1) := by decide +kernel
theorem dJ7_fill_53178_12 : decode cJ7_fill_53178 12 = .ok (.iload_n 1, 1) := by decide +kernel
theorem dJ7_fill_53178_13 : decode cJ7_fill_53178 13 = .ok (.iastore, 1) := by decide +kernel
theorem dJ7_fill_53178_14 : decode cJ7_fill_53178 14 = .ok (.iinc 2 1, 3) := by decide +kernel
theorem dJ7_fill_53178_17 : decode cJ7_fill_53178 17 = .ok (.goto (-12), 3) := by decide +kernel
theorem dJ7_fill_53178_20 : decode cJ7_fill_53178 20 = .ok (.return_, 1) := by decide +kernel
theorem dJ7_copyOf_59c91_0 : decode cJ7_copyOf_59c91 0 = .ok (.iload_n 1, 1) := by decide +kernel
theorem dJ7_copyOf_59c91_1 : decode cJ7_copyOf_59c91 1 = .ok (.aload_n 0, 1) := by decide +kernel
theorem dJ7_copyOf_59c91_2 : decode cJ7_copyOf_59c91 2 = .ok (.arraylength, 1) := by decide +kernel
theorem dJ7_copyOf_59c91_3 : decode cJ7_copyOf_59c91 3 = .ok (.if_icmp .ne 11, 3) := by decide +kernel
theorem dJ7_copyOf_59c91_6 : decode cJ7_copyOf_59c91 6 = .ok (.aload_n 0, 1) := by decide +kernel
theorem dJ7_copyOf_59c91_7 : decode cJ7_copyOf_59c91 7 = .ok (.invokevirtual 316, 3) := by decide +kernel
theorem dJ7_copyOf_59c91_10 : decode cJ7_copyOf_59c91 10 = .ok (.checkcast 317, 3) := by decide +kernel
theorem dJ7_copyOf_59c91_13 : decode cJ7_copyOf_59c91 13 = .ok (.areturn, 1) := by decide +kernel
theorem dJ7_copyOf_59c91_14 : decode cJ7_copyOf_59c91 14 = .ok (.iload_n 1, 1) := by decide +kernel
theorem dJ7_copyOf_59c91_15 : decode cJ7_copyOf_59c91 15 = .ok (.newarray .int, 2) := by decide +kernel
theorem dJ7_copyOf_59c91_17 : decode cJ7_copyOf_59c91 17 = .ok (.astore_n 2, 1) := by decide +kernel
theorem dJ7_copyOf_59c91_18 : decode cJ7_copyOf_59c91 18 = .ok (.aload_n 0, 1) := by decide +kernel
theorem dJ7_copyOf_59c91_19 : decode cJ7_copyOf_59c91 19 = .ok (.iconst 0, 1) := by decide +kernel
theorem dJ7_copyOf_59c91_20 : decode cJ7_copyOf_59c91 20 = .ok (.aload_n 2, 1) := by decide +kernel
theorem dJ7_copyOf_59c91_21 : decode cJ7_copyOf_59c91 21 = .ok (.iconst 0, 1) := by decide +kernel
theorem dJ7_copyOf_59c91_22 : decode cJ7_copyOf_59c91 22 = .ok (.aload_n 0, 1) := by decide +kernel
theorem dJ7_copyOf_59c91_23 : decode cJ7_copyOf_59c91 23 = .ok (.arraylength, 1) := by decide +kernel
theorem dJ7_copyOf_59c91_24 : decode cJ7_copyOf_59c91 24 = .ok (.iload_n 1, 1) := by decide +kernel
theorem dJ7_copyOf_59c91_25 : decode cJ7_copyOf_59c91 25 = .ok (.invokestatic 304, 3) := by decide +kernel
theorem dJ7_copyOf_59c91_28 : decode cJ7_copyOf_59c91 28 = .ok (.invokestatic 150, 3) := by decide +kernel
theorem dJ7_copyOf_59c91_31 : decode cJ7_copyOf_59c91 31 = .ok (.aload_n 2, 1) := by decide +kernel
theorem dJ7_copyOf_59c91_32 : decode cJ7_copyOf_59c91 32 = .ok (.areturn, 1) := by decide +kernel
theorem dJ3_checkIndex_8e157_0 : decode cJ3_checkIndex_8e157 0 = .ok (.iload_n 0, 1) := by decide +kernel
theorem dJ3_checkIndex_8e157_1 : decode cJ3_checkIndex_8e157 1 = .ok (.ifCond .lt 8, 3) := by decide +kernel
theorem dJ3_checkIndex_8e157_4 : decode cJ3_checkIndex_8e157 4 = .ok (.iload_n 0, 1) := by decide +kernel
theorem dJ3_checkIndex_8e157_5 : decode cJ3_checkIndex_8e157 5 = .ok (.iload_n 1, 1) := by decide +kernel
theorem dJ3_checkIndex_8e157_6 : decode cJ3_checkIndex_8e157 6 = .ok (.if_icmp .lt 10, 3) := by decide +kernel
theorem dJ3_checkIndex_8e157_9 : decode cJ3_checkIndex_8e157 9 = .ok (.aload_n 2, 1) := by decide +kernel
theorem dJ3_checkIndex_8e157_10 : decode cJ3_checkIndex_8e157 10 = .ok (.iload_n 0, 1) := by decide +kernel
theorem dJ3_checkIndex_8e157_11 : decode cJ3_checkIndex_8e157 11 = .ok (.iload_n 1, 1) := by decide +kernel
theorem dJ3_checkIndex_8e157_12 : decode cJ3_checkIndex_8e157 12 = .ok (.invokestatic 95, 3) := by decide +kernel
theorem dJ3_checkIndex_8e157_15 : decode cJ3_checkIndex_8e157 15 = .ok (.athrow, 1) := by decide +kernel
theorem dJ3_checkIndex_8e157_16 : decode cJ3_checkIndex_8e157 16 = .ok (.iload_n 0, 1) := by decide +kernel
theorem dJ3_checkIndex_8e157_17 : decode cJ3_checkIndex_8e157 17 = .ok (.ireturn, 1) := by decide +kernel
theorem dL_law_0 : decode cL_law 0 = .ok (.new 7, 3) := by decide +kernel
theorem dL_law_3 : decode cL_law 3 = .ok (.dup, 1) := by decide +kernel
theorem dL_law_4 : decode cL_law 4 = .ok (.invokespecial 9, 3) := by decide +kernel
theorem dL_law_7 : decode cL_law 7 = .ok (.astore_n 1, 1) := by decide +kernel
theorem dL_law_8 : decode cL_law 8 = .ok (.new 10, 3) := by decide +kernel
theorem dL_law_11 : decode cL_law 11 = .ok (.dup, 1) := by decide +kernel
theorem dL_law_12 : decode cL_law 12 = .ok (.invokespecial 12, 3) := by decide +kernel
theorem dL_law_15 : decode cL_law 15 = .ok (.astore_n 2, 1) := by decide +kernel
theorem dL_law_16 : decode cL_law 16 = .ok (.iconst 0, 1) := by decide +kernel
theorem dL_law_17 : decode cL_law 17 = .ok (.istore_n 3, 1) := by decide +kernel
theorem dL_law_18 : decode cL_law 18 = .ok (.iload_n 3, 1) := by decide +kernel
theorem dL_law_19 : decode cL_law 19 = .ok (.aload_n 0, 1) := by decide +kernel
theorem dL_law_20 : decode cL_law 20 = .ok (.arraylength, 1) := by decide +kernel
theorem dL_law_21 : decode cL_law 21 = .ok (.bipush 6, 2) := by decide +kernel
theorem dL_law_23 : decode cL_law 23 = .ok (.isub, 1) := by decide +kernel
theorem dL_law_24 : decode cL_law 24 = .ok (.if_icmp .gt 1284, 3) := by decide +kernel
theorem dL_law_27 : decode cL_law 27 = .ok (.aload_n 0, 1) := by decide +kernel
theorem dL_law_28 : decode cL_law 28 = .ok (.iload_n 3, 1) := by decide +kernel
theorem dL_law_29 : decode cL_law 29 = .ok (.iaload, 1) := by decide +kernel
theorem dL_law_30 : decode cL_law 30 = .ok (.bipush 63, 2) := by decide +kernel
theorem dL_law_32 : decode cL_law 32 = .ok (.iand, 1) := by decide +kernel
theorem dL_law_33 : decode cL_law 33 = .ok (.tableswitch 1269 0 32 #[147, 180, 203, 236, 269, 312, 345, 368, 381, 404, 417, 470, 513, 546, 599, 632, 665, 698, 732, 776, 799, 832, 865, 908, 921, 934, 977, 1000, 1033, 1056, 1099, 1172, 1206], 147) := by decide +kernel
theorem dL_law_180 : decode cL_law 180 = .ok (.aload_n 1, 1) := by decide +kernel
theorem dL_law_181 : decode cL_law 181 = .ok (.aload_n 0, 1) := by decide +kernel
theorem dL_law_182 : decode cL_law 182 = .ok (.iload_n 3, 1) := by decide +kernel
theorem dL_law_183 : decode cL_law 183 = .ok (.iconst 1, 1) := by decide +kernel
theorem dL_law_184 : decode cL_law 184 = .ok (.iadd, 1) := by decide +kernel
theorem dL_law_185 : decode cL_law 185 = .ok (.iaload, 1) := by decide +kernel
theorem dL_law_186 : decode cL_law 186 = .ok (.aload_n 0, 1) := by decide +kernel
theorem dL_law_187 : decode cL_law 187 = .ok (.iload_n 3, 1) := by decide +kernel
theorem dL_law_188 : decode cL_law 188 = .ok (.iconst 2, 1) := by decide +kernel
theorem dL_law_189 : decode cL_law 189 = .ok (.iadd, 1) := by decide +kernel
theorem dL_law_190 : decode cL_law 190 = .ok (.iaload, 1) := by decide +kernel
theorem dL_law_191 : decode cL_law 191 = .ok (.invokevirtual 13, 3) := by decide +kernel
theorem dL_law_194 : decode cL_law 194 = .ok (.aload_n 2, 1) := by decide +kernel
theorem dL_law_195 : decode cL_law 195 = .ok (.aload_n 0, 1) := by decide +kernel
theorem dL_law_196 : decode cL_law 196 = .ok (.iload_n 3, 1) := by decide +kernel
theorem dL_law_197 : decode cL_law 197 = .ok (.iconst 1, 1) := by decide +kernel
theorem dL_law_198 : decode cL_law 198 = .ok (.iadd, 1) := by decide +kernel
theorem dL_law_199 : decode cL_law 199 = .ok (.iaload, 1) := by decide +kernel
theorem dL_law_200 : decode cL_law 200 = .ok (.aload_n 0, 1) := by decide +kernel
theorem dL_law_201 : decode cL_law 201 = .ok (.iload_n 3, 1) := by decide +kernel
theorem dL_law_202 : decode cL_law 202 = .ok (.iconst 2, 1) := by decide +kernel
theorem dL_law_203 : decode cL_law 203 = .ok (.iadd, 1) := by decide +kernel
theorem dL_law_204 : decode cL_law 204 = .ok (.iaload, 1) := by decide +kernel
theorem dL_law_205 : decode cL_law 205 = .ok (.invokevirtual 17, 3) := by decide +kernel
theorem dL_law_208 : decode cL_law 208 = .ok (.if_icmp .eq 1094, 3) := by decide +kernel
theorem dL_law_211 : decode cL_law 211 = .ok (.iconst 0, 1) := by decide +kernel
theorem dL_law_212 : decode cL_law 212 = .ok (.ireturn, 1) := by decide +kernel
theorem dL_law_213 : decode cL_law 213 = .ok (.aload_n 1, 1) := by decide +kernel
theorem dL_law_214 : decode cL_law 214 = .ok (.aload_n 0, 1) := by decide +kernel
theorem dL_law_215 : decode cL_law 215 = .ok (.iload_n 3, 1) := by decide +kernel
theorem dL_law_216 : decode cL_law 216 = .ok (.iconst 1, 1) := by decide +kernel
theorem dL_law_217 : decode cL_law 217 = .ok (.iadd, 1) := by decide +kernel
theorem dL_law_218 : decode cL_law 218 = .ok (.iaload, 1) := by decide +kernel
theorem dL_law_219 : decode cL_law 219 = .ok (.invokevirtual 18, 3) := by decide +kernel
theorem dL_law_222 : decode cL_law 222 = .ok (.aload_n 2, 1) := by decide +kernel
theorem dL_law_223 : decode cL_law 223 = .ok (.aload_n 0, 1) := by decide +kernel
theorem dL_law_224 : decode cL_law 224 = .ok (.iload_n 3, 1) := by decide +kernel
theorem dL_law_225 : decode cL_law 225 = .ok (.iconst 1, 1) := by decide +kernel
theorem dL_law_226 : decode cL_law 226 = .ok (.iadd, 1) := by decide +kernel
theorem dL_law_227 : decode cL_law 227 = .ok (.iaload, 1) := by decide +kernel
theorem dL_law_228 : decode cL_law 228 = .ok (.invokevirtual 22, 3) := by decide +kernel
theorem dL_law_231 : decode cL_law 231 = .ok (.if_icmp .eq 1071, 3) := by decide +kernel
theorem dL_law_234 : decode cL_law 234 = .ok (.iconst 0, 1) := by decide +kernel
theorem dL_law_235 : decode cL_law 235 = .ok (.ireturn, 1) := by decide +kernel
theorem dL_law_236 : decode cL_law 236 = .ok (.aload_n 1, 1) := by decide +kernel
theorem dL_law_237 : decode cL_law 237 = .ok (.aload_n 0, 1) := by decide +kernel
theorem dL_law_238 : decode cL_law 238 = .ok (.iload_n 3, 1) := by decide +kernel
theorem dL_law_239 : decode cL_law 239 = .ok (.iconst 1, 1) := by decide +kernel
theorem dL_law_240 : decode cL_law 240 = .ok (.iadd, 1) := by decide +kernel
theorem dL_law_241 : decode cL_law 241 = .ok (.iaload, 1) := by decide +kernel
theorem dL_law_242 : decode cL_law 242 = .ok (.aload_n 0, 1) := by decide +kernel
theorem dL_law_243 : decode cL_law 243 = .ok (.iload_n 3, 1) := by decide +kernel
theorem dL_law_244 : decode cL_law 244 = .ok (.iconst 2, 1) := by decide +kernel
theorem dL_law_245 : decode cL_law 245 = .ok (.iadd, 1) := by decide +kernel
theorem dL_law_246 : decode cL_law 246 = .ok (.iaload, 1) := by decide +kernel
theorem dL_law_247 : decode cL_law 247 = .ok (.invokevirtual 23, 3) := by decide +kernel
theorem dL_law_250 : decode cL_law 250 = .ok (.aload_n 2, 1) := by decide +kernel
theorem dL_law_251 : decode cL_law 251 = .ok (.aload_n 0, 1) := by decide +kernel
theorem dL_law_252 : decode cL_law 252 = .ok (.iload_n 3, 1) := by decide +kernel
theorem dL_law_253 : decode cL_law 253 = .ok (.iconst 1, 1) := by decide +kernel
theorem dL_law_254 : decode cL_law 254 = .ok (.iadd, 1) := by decide +kernel
theorem dL_law_255 : decode cL_law 255 = .ok (.iaload, 1) := by decide +kernel
theorem dL_law_256 : decode cL_law 256 = .ok (.aload_n 0, 1) := by decide +kernel
theorem dL_law_257 : decode cL_law 257 = .ok (.iload_n 3, 1) := by decide +kernel
theorem dL_law_258 : decode cL_law 258 = .ok (.iconst 2, 1) := by decide +kernel
theorem dL_law_259 : decode cL_law 259 = .ok (.iadd, 1) := by decide +kernel
theorem dL_law_260 : decode cL_law 260 = .ok (.iaload, 1) := by decide +kernel
theorem dL_law_261 : decode cL_law 261 = .ok (.invokevirtual 26, 3) := by decide +kernel
theorem dL_law_264 : decode cL_law 264 = .ok (.if_icmp .eq 1038, 3) := by decide +kernel
theorem dL_law_267 : decode cL_law 267 = .ok (.iconst 0, 1) := by decide +kernel
theorem dL_law_268 : decode cL_law 268 = .ok (.ireturn, 1) := by decide +kernel
theorem dL_law_269 : decode cL_law 269 = .ok (.aload_n 1, 1) := by decide +kernel
theorem dL_law_270 : decode cL_law 270 = .ok (.aload_n 0, 1) := by decide +kernel
theorem dL_law_271 : decode cL_law 271 = .ok (.iload_n 3, 1) := by decide +kernel
theorem dL_law_272 : decode cL_law 272 = .ok (.iconst 1, 1) := by decide +kernel
theorem dL_law_273 : decode cL_law 273 = .ok (.iadd, 1) := by decide +kernel
theorem dL_law_274 : decode cL_law 274 = .ok (.iaload, 1) := by decide +kernel
theorem dL_law_275 : decode cL_law 275 = .ok (.aload_n 0, 1) := by decide +kernel
theorem dL_law_276 : decode cL_law 276 = .ok (.iload_n 3, 1) := by decide +kernel
theorem dL_law_277 : decode cL_law 277 = .ok (.iconst 2, 1) := by decide +kernel
theorem dL_law_278 : decode cL_law 278 = .ok (.iadd, 1) := by decide +kernel
theorem dL_law_279 : decode cL_law 279 = .ok (.iaload, 1) := by decide +kernel
theorem dL_law_280 : decode cL_law 280 = .ok (.invokevirtual 27, 3) := by decide +kernel
theorem dL_law_283 : decode cL_law 283 = .ok (.aload_n 2, 1) := by decide +kernel
theorem dL_law_284 : decode cL_law 284 = .ok (.aload_n 0, 1) := by decide +kernel
theorem dL_law_285 : decode cL_law 285 = .ok (.iload_n 3, 1) := by decide +kernel
theorem dL_law_286 : decode cL_law 286 = .ok (.iconst 1, 1) := by decide +kernel
theorem dL_law_287 : decode cL_law 287 = .ok (.iadd, 1) := by decide +kernel
theorem dL_law_288 : decode cL_law 288 = .ok (.iaload, 1) := by decide +kernel
theorem dL_law_289 : decode cL_law 289 = .ok (.aload_n 0, 1) := by decide +kernel
theorem dL_law_290 : decode cL_law 290 = .ok (.iload_n 3, 1) := by decide +kernel
theorem dL_law_291 : decode cL_law 291 = .ok (.iconst 2, 1) := by decide +kernel
theorem dL_law_292 : decode cL_law 292 = .ok (.iadd, 1) := by decide +kernel
theorem dL_law_293 : decode cL_law 293 = .ok (.iaload, 1) := by decide +kernel
theorem dL_law_294 : decode cL_law 294 = .ok (.invokevirtual 30, 3) := by decide +kernel
theorem dL_law_297 : decode cL_law 297 = .ok (.if_icmp .eq 1005, 3) := by decide +kernel
theorem dL_law_300 : decode cL_law 300 = .ok (.iconst 0, 1) := by decide +kernel
theorem dL_law_301 : decode cL_law 301 = .ok (.ireturn, 1) := by decide +kernel
theorem dL_law_302 : decode cL_law 302 = .ok (.aload_n 1, 1) := by decide +kernel
theorem dL_law_303 : decode cL_law 303 = .ok (.aload_n 0, 1) := by decide +kernel
theorem dL_law_304 : decode cL_law 304 = .ok (.iload_n 3, 1) := by decide +kernel
theorem dL_law_305 : decode cL_law 305 = .ok (.iconst 1, 1) := by decide +kernel
theorem dL_law_306 : decode cL_law 306 = .ok (.iadd, 1) := by decide +kernel
theorem dL_law_307 : decode cL_law 307 = .ok (.iaload, 1) := by decide +kernel
theorem dL_law_308 : decode cL_law 308 = .ok (.aload_n 0, 1) := by decide +kernel
theorem dL_law_309 : decode cL_law 309 = .ok (.iload_n 3, 1) := by decide +kernel
theorem dL_law_310 : decode cL_law 310 = .ok (.iconst 2, 1) := by decide +kernel
theorem dL_law_311 : decode cL_law 311 = .ok (.iadd, 1) := by decide +kernel
theorem dL_law_312 : decode cL_law 312 = .ok (.iaload, 1) := by decide +kernel
theorem dL_law_313 : decode cL_law 313 = .ok (.aload_n 0, 1) := by decide +kernel
theorem dL_law_314 : decode cL_law 314 = .ok (.iload_n 3, 1) := by decide +kernel
theorem dL_law_315 : decode cL_law 315 = .ok (.iconst 3, 1) := by decide +kernel
theorem dL_law_316 : decode cL_law 316 = .ok (.iadd, 1) := by decide +kernel
theorem dL_law_317 : decode cL_law 317 = .ok (.iaload, 1) := by decide +kernel
theorem dL_law_318 : decode cL_law 318 = .ok (.invokevirtual 31, 3) := by decide +kernel
theorem dL_law_321 : decode cL_law 321 = .ok (.aload_n 2, 1) := by decide +kernel
theorem dL_law_322 : decode cL_law 322 = .ok (.aload_n 0, 1) := by decide +kernel
theorem dL_law_323 : decode cL_law 323 = .ok (.iload_n 3, 1) := by decide +kernel
theorem dL_law_324 : decode cL_law 324 = .ok (.iconst 1, 1) := by decide +kernel
theorem dL_law_325 : decode cL_law 325 = .ok (.iadd, 1) := by decide +kernel
theorem dL_law_326 : decode cL_law 326 = .ok (.iaload, 1) := by decide +kernel
theorem dL_law_327 : decode cL_law 327 = .ok (.aload_n 0, 1) := by decide +kernel
theorem dL_law_328 : decode cL_law 328 = .ok (.iload_n 3, 1) := by decide +kernel
theorem dL_law_329 : decode cL_law 329 = .ok (.iconst 2, 1) := by decide +kernel
theorem dL_law_330 : decode cL_law 330 = .ok (.iadd, 1) := by decide +kernel
theorem dL_law_331 : decode cL_law 331 = .ok (.iaload, 1) := by decide +kernel
theorem dL_law_332 : decode cL_law 332 = .ok (.aload_n 0, 1) := by decide +kernel
theorem dL_law_333 : decode cL_law 333 = .ok (.iload_n 3, 1) := by decide +kernel
theorem dL_law_334 : decode cL_law 334 = .ok (.iconst 3, 1) := by decide +kernel
theorem dL_law_335 : decode cL_law 335 = .ok (.iadd, 1) := by decide +kernel
theorem dL_law_336 : decode cL_law 336 = .ok (.iaload, 1) := by decide +kernel
theorem dL_law_337 : decode cL_law 337 = .ok (.invokevirtual 35, 3) := by decide +kernel
theorem dL_law_340 : decode cL_law 340 = .ok (.if_icmp .eq 962, 3) := by decide +kernel
theorem dL_law_343 : decode cL_law 343 = .ok (.iconst 0, 1) := by decide +kernel
theorem dL_law_344 : decode cL_law 344 = .ok (.ireturn, 1) := by decide +kernel
theorem dL_law_345 : decode cL_law 345 = .ok (.aload_n 1, 1) := by decide +kernel
theorem dL_law_346 : decode cL_law 346 = .ok (.aload_n 0, 1) := by decide +kernel
theorem dL_law_347 : decode cL_law 347 = .ok (.iload_n 3, 1) := by decide +kernel
theorem dL_law_348 : decode cL_law 348 = .ok (.iconst 1, 1) := by decide +kernel
theorem dL_law_349 : decode cL_law 349 = .ok (.iadd, 1) := by decide +kernel
theorem dL_law_350 : decode cL_law 350 = .ok (.iaload, 1) := by decide +kernel
theorem dL_law_351 : decode cL_law 351 = .ok (.aload_n 0, 1) := by decide +kernel
theorem dL_law_352 : decode cL_law 352 = .ok (.iload_n 3, 1) := by decide +kernel
theorem dL_law_353 : decode cL_law 353 = .ok (.iconst 2, 1) := by decide +kernel
theorem dL_law_354 : decode cL_law 354 = .ok (.iadd, 1) := by decide +kernel
theorem dL_law_355 : decode cL_law 355 = .ok (.iaload, 1) := by decide +kernel
theorem dL_law_356 : decode cL_law 356 = .ok (.invokevirtual 36, 3) := by decide +kernel
theorem dL_law_359 : decode cL_law 359 = .ok (.aload_n 2, 1) := by decide +kernel
theorem dL_law_360 : decode cL_law 360 = .ok (.aload_n 0, 1) := by decide +kernel
theorem dL_law_361 : decode cL_law 361 = .ok (.iload_n 3, 1) := by decide +kernel
theorem dL_law_362 : decode cL_law 362 = .ok (.iconst 1, 1) := by decide +kernel
theorem dL_law_363 : decode cL_law 363 = .ok (.iadd, 1) := by decide +kernel
theorem dL_law_364 : decode cL_law 364 = .ok (.iaload, 1) := by decide +kernel
theorem dL_law_365 : decode cL_law 365 = .ok (.aload_n 0, 1) := by decide +kernel
theorem dL_law_366 : decode cL_law 366 = .ok (.iload_n 3, 1) := by decide +kernel
theorem dL_law_367 : decode cL_law 367 = .ok (.iconst 2, 1) := by decide +kernel
theorem dL_law_368 : decode cL_law 368 = .ok (.iadd, 1) := by decide +kernel
theorem dL_law_369 : decode cL_law 369 = .ok (.iaload, 1) := by decide +kernel
theorem dL_law_370 : decode cL_law 370 = .ok (.invokevirtual 39, 3) := by decide +kernel
theorem dL_law_373 : decode cL_law 373 = .ok (.if_icmp .eq 929, 3) := by decide +kernel
theorem dL_law_376 : decode cL_law 376 = .ok (.iconst 0, 1) := by decide +kernel
theorem dL_law_377 : decode cL_law 377 = .ok (.ireturn, 1) := by decide +kernel
theorem dL_law_378 : decode cL_law 378 = .ok (.aload_n 1, 1) := by decide +kernel
theorem dL_law_379 : decode cL_law 379 = .ok (.aload_n 0, 1) := by decide +kernel
theorem dL_law_380 : decode cL_law 380 = .ok (.iload_n 3, 1) := by decide +kernel
theorem dL_law_381 : decode cL_law 381 = .ok (.iconst 1, 1) := by decide +kernel
theorem dL_law_382 : decode cL_law 382 = .ok (.iadd, 1) := by decide +kernel
theorem dL_law_383 : decode cL_law 383 = .ok (.iaload, 1) := by decide +kernel
theorem dL_law_384 : decode cL_law 384 = .ok (.invokevirtual 40, 3) := by decide +kernel
theorem dL_law_387 : decode cL_law 387 = .ok (.aload_n 2, 1) := by decide +kernel
theorem dL_law_388 : decode cL_law 388 = .ok (.aload_n 0, 1) := by decide +kernel
theorem dL_law_389 : decode cL_law 389 = .ok (.iload_n 3, 1) := by decide +kernel
theorem dL_law_390 : decode cL_law 390 = .ok (.iconst 1, 1) := by decide +kernel
theorem dL_law_391 : decode cL_law 391 = .ok (.iadd, 1) := by decide +kernel
theorem dL_law_392 : decode cL_law 392 = .ok (.iaload, 1) := by decide +kernel
theorem dL_law_393 : decode cL_law 393 = .ok (.invokevirtual 43, 3) := by decide +kernel
theorem dL_law_396 : decode cL_law 396 = .ok (.if_icmp .eq 906, 3) := by decide +kernel
theorem dL_law_399 : decode cL_law 399 = .ok (.iconst 0, 1) := by decide +kernel
theorem dL_law_400 : decode cL_law 400 = .ok (.ireturn, 1) := by decide +kernel
theorem dL_law_401 : decode cL_law 401 = .ok (.aload_n 1, 1) := by decide +kernel
theorem dL_law_402 : decode cL_law 402 = .ok (.invokevirtual 44, 3) := by decide +kernel
theorem dL_law_405 : decode cL_law 405 = .ok (.aload_n 2, 1) := by decide +kernel
theorem dL_law_406 : decode cL_law 406 = .ok (.invokevirtual 48, 3) := by decide +kernel
theorem dL_law_409 : decode cL_law 409 = .ok (.if_icmp .eq 893, 3) := by decide +kernel
theorem dL_law_412 : decode cL_law 412 = .ok (.iconst 0, 1) := by decide +kernel
theorem dL_law_413 : decode cL_law 413 = .ok (.ireturn, 1) := by decide +kernel
theorem dL_law_414 : decode cL_law 414 = .ok (.aload_n 1, 1) := by decide +kernel
theorem dL_law_415 : decode cL_law 415 = .ok (.aload_n 0, 1) := by decide +kernel
theorem dL_law_416 : decode cL_law 416 = .ok (.iload_n 3, 1) := by decide +kernel
theorem dL_law_417 : decode cL_law 417 = .ok (.iconst 1, 1) := by decide +kernel
theorem dL_law_418 : decode cL_law 418 = .ok (.iadd, 1) := by decide +kernel
theorem dL_law_419 : decode cL_law 419 = .ok (.iaload, 1) := by decide +kernel
theorem dL_law_420 : decode cL_law 420 = .ok (.invokevirtual 49, 3) := by decide +kernel
theorem dL_law_423 : decode cL_law 423 = .ok (.aload_n 2, 1) := by decide +kernel
theorem dL_law_424 : decode cL_law 424 = .ok (.aload_n 0, 1) := by decide +kernel
theorem dL_law_425 : decode cL_law 425 = .ok (.iload_n 3, 1) := by decide +kernel
theorem dL_law_426 : decode cL_law 426 = .ok (.iconst 1, 1) := by decide +kernel
theorem dL_law_427 : decode cL_law 427 = .ok (.iadd, 1) := by decide +kernel
theorem dL_law_428 : decode cL_law 428 = .ok (.iaload, 1) := by decide +kernel
theorem dL_law_429 : decode cL_law 429 = .ok (.invokevirtual 52, 3) := by decide +kernel
theorem dL_law_432 : decode cL_law 432 = .ok (.if_icmp .eq 870, 3) := by decide +kernel
theorem dL_law_435 : decode cL_law 435 = .ok (.iconst 0, 1) := by decide +kernel
theorem dL_law_436 : decode cL_law 436 = .ok (.ireturn, 1) := by decide +kernel
theorem dL_law_437 : decode cL_law 437 = .ok (.aload_n 1, 1) := by decide +kernel
theorem dL_law_438 : decode cL_law 438 = .ok (.invokevirtual 53, 3) := by decide +kernel
theorem dL_law_441 : decode cL_law 441 = .ok (.aload_n 2, 1) := by decide +kernel
theorem dL_law_442 : decode cL_law 442 = .ok (.invokevirtual 56, 3) := by decide +kernel
theorem dL_law_445 : decode cL_law 445 = .ok (.if_icmp .eq 857, 3) := by decide +kernel
theorem dL_law_448 : decode cL_law 448 = .ok (.iconst 0, 1) := by decide +kernel
theorem dL_law_449 : decode cL_law 449 = .ok (.ireturn, 1) := by decide +kernel
theorem dL_law_450 : decode cL_law 450 = .ok (.aload_n 1, 1) := by decide +kernel
theorem dL_law_451 : decode cL_law 451 = .ok (.aload_n 0, 1) := by decide +kernel
theorem dL_law_452 : decode cL_law 452 = .ok (.iload_n 3, 1) := by decide +kernel
theorem dL_law_453 : decode cL_law 453 = .ok (.iconst 1, 1) := by decide +kernel
theorem dL_law_454 : decode cL_law 454 = .ok (.iadd, 1) := by decide +kernel
theorem dL_law_455 : decode cL_law 455 = .ok (.iaload, 1) := by decide +kernel
theorem dL_law_456 : decode cL_law 456 = .ok (.aload_n 0, 1) := by decide +kernel
theorem dL_law_457 : decode cL_law 457 = .ok (.iload_n 3, 1) := by decide +kernel
theorem dL_law_458 : decode cL_law 458 = .ok (.iconst 2, 1) := by decide +kernel
theorem dL_law_459 : decode cL_law 459 = .ok (.iadd, 1) := by decide +kernel
theorem dL_law_460 : decode cL_law 460 = .ok (.iaload, 1) := by decide +kernel
theorem dL_law_461 : decode cL_law 461 = .ok (.aload_n 0, 1) := by decide +kernel
theorem dL_law_462 : decode cL_law 462 = .ok (.iload_n 3, 1) := by decide +kernel
theorem dL_law_463 : decode cL_law 463 = .ok (.iconst 3, 1) := by decide +kernel
theorem dL_law_464 : decode cL_law 464 = .ok (.iadd, 1) := by decide +kernel
theorem dL_law_465 : decode cL_law 465 = .ok (.iaload, 1) := by decide +kernel
theorem dL_law_466 : decode cL_law 466 = .ok (.aload_n 0, 1) := by decide +kernel
theorem dL_law_467 : decode cL_law 467 = .ok (.iload_n 3, 1) := by decide +kernel
theorem dL_law_468 : decode cL_law 468 = .ok (.iconst 4, 1) := by decide +kernel
theorem dL_law_469 : decode cL_law 469 = .ok (.iadd, 1) := by decide +kernel
theorem dL_law_470 : decode cL_law 470 = .ok (.iaload, 1) := by decide +kernel
theorem dL_law_471 : decode cL_law 471 = .ok (.invokevirtual 57, 3) := by decide +kernel
theorem dL_law_474 : decode cL_law 474 = .ok (.aload_n 2, 1) := by decide +kernel
theorem dL_law_475 : decode cL_law 475 = .ok (.aload_n 0, 1) := by decide +kernel
theorem dL_law_476 : decode cL_law 476 = .ok (.iload_n 3, 1) := by decide +kernel
theorem dL_law_477 : decode cL_law 477 = .ok (.iconst 1, 1) := by decide +kernel
theorem dL_law_478 : decode cL_law 478 = .ok (.iadd, 1) := by decide +kernel
theorem dL_law_479 : decode cL_law 479 = .ok (.iaload, 1) := by decide +kernel
theorem dL_law_480 : decode cL_law 480 = .ok (.aload_n 0, 1) := by decide +kernel
theorem dL_law_481 : decode cL_law 481 = .ok (.iload_n 3, 1) := by decide +kernel
theorem dL_law_482 : decode cL_law 482 = .ok (.iconst 2, 1) := by decide +kernel
theorem dL_law_483 : decode cL_law 483 = .ok (.iadd, 1) := by decide +kernel
theorem dL_law_484 : decode cL_law 484 = .ok (.iaload, 1) := by decide +kernel
theorem dL_law_485 : decode cL_law 485 = .ok (.aload_n 0, 1) := by decide +kernel
theorem dL_law_486 : decode cL_law 486 = .ok (.iload_n 3, 1) := by decide +kernel
theorem dL_law_487 : decode cL_law 487 = .ok (.iconst 3, 1) := by decide +kernel
theorem dL_law_488 : decode cL_law 488 = .ok (.iadd, 1) := by decide +kernel
theorem dL_law_489 : decode cL_law 489 = .ok (.iaload, 1) := by decide +kernel
theorem dL_law_490 : decode cL_law 490 = .ok (.aload_n 0, 1) := by decide +kernel
theorem dL_law_491 : decode cL_law 491 = .ok (.iload_n 3, 1) := by decide +kernel
theorem dL_law_492 : decode cL_law 492 = .ok (.iconst 4, 1) := by decide +kernel
theorem dL_law_493 : decode cL_law 493 = .ok (.iadd, 1) := by decide +kernel
theorem dL_law_494 : decode cL_law 494 = .ok (.iaload, 1) := by decide +kernel
theorem dL_law_495 : decode cL_law 495 = .ok (.invokevirtual 61, 3) := by decide +kernel
theorem dL_law_498 : decode cL_law 498 = .ok (.if_icmp .eq 804, 3) := by decide +kernel
theorem dL_law_501 : decode cL_law 501 = .ok (.iconst 0, 1) := by decide +kernel
theorem dL_law_502 : decode cL_law 502 = .ok (.ireturn, 1) := by decide +kernel
theorem dL_law_503 : decode cL_law 503 = .ok (.aload_n 1, 1) := by decide +kernel
theorem dL_law_504 : decode cL_law 504 = .ok (.aload_n 0, 1) := by decide +kernel
theorem dL_law_505 : decode cL_law 505 = .ok (.iload_n 3, 1) := by decide +kernel
theorem dL_law_506 : decode cL_law 506 = .ok (.iconst 1, 1) := by decide +kernel
theorem dL_law_507 : decode cL_law 507 = .ok (.iadd, 1) := by decide +kernel
theorem dL_law_508 : decode cL_law 508 = .ok (.iaload, 1) := by decide +kernel
theorem dL_law_509 : decode cL_law 509 = .ok (.aload_n 0, 1) := by decide +kernel
theorem dL_law_510 : decode cL_law 510 = .ok (.iload_n 3, 1) := by decide +kernel
theorem dL_law_511 : decode cL_law 511 = .ok (.iconst 2, 1) := by decide +kernel
theorem dL_law_512 : decode cL_law 512 = .ok (.iadd, 1) := by decide +kernel
theorem dL_law_513 : decode cL_law 513 = .ok (.iaload, 1) := by decide +kernel
theorem dL_law_514 : decode cL_law 514 = .ok (.aload_n 0, 1) := by decide +kernel
theorem dL_law_515 : decode cL_law 515 = .ok (.iload_n 3, 1) := by decide +kernel
theorem dL_law_516 : decode cL_law 516 = .ok (.iconst 3, 1) := by decide +kernel
theorem dL_law_517 : decode cL_law 517 = .ok (.iadd, 1) := by decide +kernel
theorem dL_law_518 : decode cL_law 518 = .ok (.iaload, 1) := by decide +kernel
theorem dL_law_519 : decode cL_law 519 = .ok (.invokevirtual 62, 3) := by decide +kernel
theorem dL_law_522 : decode cL_law 522 = .ok (.aload_n 2, 1) := by decide +kernel
theorem dL_law_523 : decode cL_law 523 = .ok (.aload_n 0, 1) := by decide +kernel
theorem dL_law_524 : decode cL_law 524 = .ok (.iload_n 3, 1) := by decide +kernel
theorem dL_law_525 : decode cL_law 525 = .ok (.iconst 1, 1) := by decide +kernel
theorem dL_law_526 : decode cL_law 526 = .ok (.iadd, 1) := by decide +kernel
theorem dL_law_527 : decode cL_law 527 = .ok (.iaload, 1) := by decide +kernel
theorem dL_law_528 : decode cL_law 528 = .ok (.aload_n 0, 1) := by decide +kernel
theorem dL_law_529 : decode cL_law 529 = .ok (.iload_n 3, 1) := by decide +kernel
theorem dL_law_530 : decode cL_law 530 = .ok (.iconst 2, 1) := by decide +kernel
theorem dL_law_531 : decode cL_law 531 = .ok (.iadd, 1) := by decide +kernel
theorem dL_law_532 : decode cL_law 532 = .ok (.iaload, 1) := by decide +kernel
theorem dL_law_533 : decode cL_law 533 = .ok (.aload_n 0, 1) := by decide +kernel
theorem dL_law_534 : decode cL_law 534 = .ok (.iload_n 3, 1) := by decide +kernel
theorem dL_law_535 : decode cL_law 535 = .ok (.iconst 3, 1) := by decide +kernel
theorem dL_law_536 : decode cL_law 536 = .ok (.iadd, 1) := by decide +kernel
theorem dL_law_537 : decode cL_law 537 = .ok (.iaload, 1) := by decide +kernel
theorem dL_law_538 : decode cL_law 538 = .ok (.invokevirtual 65, 3) := by decide +kernel
theorem dL_law_541 : decode cL_law 541 = .ok (.if_icmp .eq 761, 3) := by decide +kernel
theorem dL_law_544 : decode cL_law 544 = .ok (.iconst 0, 1) := by decide +kernel
theorem dL_law_545 : decode cL_law 545 = .ok (.ireturn, 1) := by decide +kernel
theorem dL_law_546 : decode cL_law 546 = .ok (.aload_n 1, 1) := by decide +kernel
theorem dL_law_547 : decode cL_law 547 = .ok (.aload_n 0, 1) := by decide +kernel
theorem dL_law_548 : decode cL_law 548 = .ok (.iload_n 3, 1) := by decide +kernel
theorem dL_law_549 : decode cL_law 549 = .ok (.iconst 1, 1) := by decide +kernel
theorem dL_law_550 : decode cL_law 550 = .ok (.iadd, 1) := by decide +kernel
theorem dL_law_551 : decode cL_law 551 = .ok (.iaload, 1) := by decide +kernel
theorem dL_law_552 : decode cL_law 552 = .ok (.aload_n 0, 1) := by decide +kernel
theorem dL_law_553 : decode cL_law 553 = .ok (.iload_n 3, 1) := by decide +kernel
theorem dL_law_554 : decode cL_law 554 = .ok (.iconst 2, 1) := by decide +kernel
theorem dL_law_555 : decode cL_law 555 = .ok (.iadd, 1) := by decide +kernel
theorem dL_law_556 : decode cL_law 556 = .ok (.iaload, 1) := by decide +kernel
theorem dL_law_557 : decode cL_law 557 = .ok (.invokevirtual 66, 3) := by decide +kernel
theorem dL_law_560 : decode cL_law 560 = .ok (.aload_n 2, 1) := by decide +kernel
theorem dL_law_561 : decode cL_law 561 = .ok (.aload_n 0, 1) := by decide +kernel
theorem dL_law_562 : decode cL_law 562 = .ok (.iload_n 3, 1) := by decide +kernel
theorem dL_law_563 : decode cL_law 563 = .ok (.iconst 1, 1) := by decide +kernel
theorem dL_law_564 : decode cL_law 564 = .ok (.iadd, 1) := by decide +kernel
theorem dL_law_565 : decode cL_law 565 = .ok (.iaload, 1) := by decide +kernel
theorem dL_law_566 : decode cL_law 566 = .ok (.aload_n 0, 1) := by decide +kernel
theorem dL_law_567 : decode cL_law 567 = .ok (.iload_n 3, 1) := by decide +kernel
theorem dL_law_568 : decode cL_law 568 = .ok (.iconst 2, 1) := by decide +kernel
theorem dL_law_569 : decode cL_law 569 = .ok (.iadd, 1) := by decide +kernel
theorem dL_law_570 : decode cL_law 570 = .ok (.iaload, 1) := by decide +kernel
theorem dL_law_571 : decode cL_law 571 = .ok (.invokevirtual 69, 3) := by decide +kernel
theorem dL_law_574 : decode cL_law 574 = .ok (.if_icmp .eq 728, 3) := by decide +kernel
theorem dL_law_577 : decode cL_law 577 = .ok (.iconst 0, 1) := by decide +kernel
theorem dL_law_578 : decode cL_law 578 = .ok (.ireturn, 1) := by decide +kernel
theorem dL_law_579 : decode cL_law 579 = .ok (.aload_n 1, 1) := by decide +kernel
theorem dL_law_580 : decode cL_law 580 = .ok (.aload_n 0, 1) := by decide +kernel
theorem dL_law_581 : decode cL_law 581 = .ok (.iload_n 3, 1) := by decide +kernel
theorem dL_law_582 : decode cL_law 582 = .ok (.iconst 1, 1) := by decide +kernel
theorem dL_law_583 : decode cL_law 583 = .ok (.iadd, 1) := by decide +kernel
theorem dL_law_584 : decode cL_law 584 = .ok (.iaload, 1) := by decide +kernel
theorem dL_law_585 : decode cL_law 585 = .ok (.aload_n 0, 1) := by decide +kernel
theorem dL_law_586 : decode cL_law 586 = .ok (.iload_n 3, 1) := by decide +kernel
theorem dL_law_587 : decode cL_law 587 = .ok (.iconst 2, 1) := by decide +kernel
theorem dL_law_588 : decode cL_law 588 = .ok (.iadd, 1) := by decide +kernel
theorem dL_law_589 : decode cL_law 589 = .ok (.iaload, 1) := by decide +kernel
theorem dL_law_590 : decode cL_law 590 = .ok (.aload_n 0, 1) := by decide +kernel
theorem dL_law_591 : decode cL_law 591 = .ok (.iload_n 3, 1) := by decide +kernel
theorem dL_law_592 : decode cL_law 592 = .ok (.iconst 3, 1) := by decide +kernel
theorem dL_law_593 : decode cL_law 593 = .ok (.iadd, 1) := by decide +kernel
theorem dL_law_594 : decode cL_law 594 = .ok (.iaload, 1) := by decide +kernel
theorem dL_law_595 : decode cL_law 595 = .ok (.aload_n 0, 1) := by decide +kernel
theorem dL_law_596 : decode cL_law 596 = .ok (.iload_n 3, 1) := by decide +kernel
theorem dL_law_597 : decode cL_law 597 = .ok (.iconst 4, 1) := by decide +kernel
theorem dL_law_598 : decode cL_law 598 = .ok (.iadd, 1) := by decide +kernel
theorem dL_law_599 : decode cL_law 599 = .ok (.iaload, 1) := by decide +kernel
theorem dL_law_600 : decode cL_law 600 = .ok (.invokevirtual 70, 3) := by decide +kernel
theorem dL_law_603 : decode cL_law 603 = .ok (.aload_n 2, 1) := by decide +kernel
theorem dL_law_604 : decode cL_law 604 = .ok (.aload_n 0, 1) := by decide +kernel
theorem dL_law_605 : decode cL_law 605 = .ok (.iload_n 3, 1) := by decide +kernel
theorem dL_law_606 : decode cL_law 606 = .ok (.iconst 1, 1) := by decide +kernel
theorem dL_law_607 : decode cL_law 607 = .ok (.iadd, 1) := by decide +kernel
theorem dL_law_608 : decode cL_law 608 = .ok (.iaload, 1) := by decide +kernel
theorem dL_law_609 : decode cL_law 609 = .ok (.aload_n 0, 1) := by decide +kernel
theorem dL_law_610 : decode cL_law 610 = .ok (.iload_n 3, 1) := by decide +kernel
theorem dL_law_611 : decode cL_law 611 = .ok (.iconst 2, 1) := by decide +kernel
theorem dL_law_612 : decode cL_law 612 = .ok (.iadd, 1) := by decide +kernel
theorem dL_law_613 : decode cL_law 613 = .ok (.iaload, 1) := by decide +kernel
theorem dL_law_614 : decode cL_law 614 = .ok (.aload_n 0, 1) := by decide +kernel
theorem dL_law_615 : decode cL_law 615 = .ok (.iload_n 3, 1) := by decide +kernel
theorem dL_law_616 : decode cL_law 616 = .ok (.iconst 3, 1) := by decide +kernel
theorem dL_law_617 : decode cL_law 617 = .ok (.iadd, 1) := by decide +kernel
theorem dL_law_618 : decode cL_law 618 = .ok (.iaload, 1) := by decide +kernel
theorem dL_law_619 : decode cL_law 619 = .ok (.aload_n 0, 1) := by decide +kernel
theorem dL_law_620 : decode cL_law 620 = .ok (.iload_n 3, 1) := by decide +kernel
theorem dL_law_621 : decode cL_law 621 = .ok (.iconst 4, 1) := by decide +kernel
theorem dL_law_622 : decode cL_law 622 = .ok (.iadd, 1) := by decide +kernel
theorem dL_law_623 : decode cL_law 623 = .ok (.iaload, 1) := by decide +kernel
theorem dL_law_624 : decode cL_law 624 = .ok (.invokevirtual 73, 3) := by decide +kernel
theorem dL_law_627 : decode cL_law 627 = .ok (.if_icmp .eq 675, 3) := by decide +kernel
theorem dL_law_630 : decode cL_law 630 = .ok (.iconst 0, 1) := by decide +kernel
theorem dL_law_631 : decode cL_law 631 = .ok (.ireturn, 1) := by decide +kernel
theorem dL_law_632 : decode cL_law 632 = .ok (.aload_n 1, 1) := by decide +kernel
theorem dL_law_633 : decode cL_law 633 = .ok (.aload_n 0, 1) := by decide +kernel
theorem dL_law_634 : decode cL_law 634 = .ok (.iload_n 3, 1) := by decide +kernel
theorem dL_law_635 : decode cL_law 635 = .ok (.iconst 1, 1) := by decide +kernel
theorem dL_law_636 : decode cL_law 636 = .ok (.iadd, 1) := by decide +kernel
theorem dL_law_637 : decode cL_law 637 = .ok (.iaload, 1) := by decide +kernel
theorem dL_law_638 : decode cL_law 638 = .ok (.aload_n 0, 1) := by decide +kernel
theorem dL_law_639 : decode cL_law 639 = .ok (.iload_n 3, 1) := by decide +kernel
theorem dL_law_640 : decode cL_law 640 = .ok (.iconst 2, 1) := by decide +kernel
theorem dL_law_641 : decode cL_law 641 = .ok (.iadd, 1) := by decide +kernel
theorem dL_law_642 : decode cL_law 642 = .ok (.iaload, 1) := by decide +kernel
theorem dL_law_643 : decode cL_law 643 = .ok (.invokevirtual 74, 3) := by decide +kernel
theorem dL_law_646 : decode cL_law 646 = .ok (.aload_n 2, 1) := by decide +kernel
theorem dL_law_647 : decode cL_law 647 = .ok (.aload_n 0, 1) := by decide +kernel
theorem dL_law_648 : decode cL_law 648 = .ok (.iload_n 3, 1) := by decide +kernel
theorem dL_law_649 : decode cL_law 649 = .ok (.iconst 1, 1) := by decide +kernel
theorem dL_law_650 : decode cL_law 650 = .ok (.iadd, 1) := by decide +kernel
theorem dL_law_651 : decode cL_law 651 = .ok (.iaload, 1) := by decide +kernel
theorem dL_law_652 : decode cL_law 652 = .ok (.aload_n 0, 1) := by decide +kernel
theorem dL_law_653 : decode cL_law 653 = .ok (.iload_n 3, 1) := by decide +kernel
theorem dL_law_654 : decode cL_law 654 = .ok (.iconst 2, 1) := by decide +kernel
theorem dL_law_655 : decode cL_law 655 = .ok (.iadd, 1) := by decide +kernel
theorem dL_law_656 : decode cL_law 656 = .ok (.iaload, 1) := by decide +kernel
theorem dL_law_657 : decode cL_law 657 = .ok (.invokevirtual 77, 3) := by decide +kernel
theorem dL_law_660 : decode cL_law 660 = .ok (.if_icmp .eq 642, 3) := by decide +kernel
theorem dL_law_663 : decode cL_law 663 = .ok (.iconst 0, 1) := by decide +kernel
theorem dL_law_664 : decode cL_law 664 = .ok (.ireturn, 1) := by decide +kernel
theorem dL_law_665 : decode cL_law 665 = .ok (.aload_n 1, 1) := by decide +kernel
theorem dL_law_666 : decode cL_law 666 = .ok (.aload_n 0, 1) := by decide +kernel
theorem dL_law_667 : decode cL_law 667 = .ok (.iload_n 3, 1) := by decide +kernel
theorem dL_law_668 : decode cL_law 668 = .ok (.iconst 1, 1) := by decide +kernel
theorem dL_law_669 : decode cL_law 669 = .ok (.iadd, 1) := by decide +kernel
theorem dL_law_670 : decode cL_law 670 = .ok (.iaload, 1) := by decide +kernel
theorem dL_law_671 : decode cL_law 671 = .ok (.aload_n 0, 1) := by decide +kernel
theorem dL_law_672 : decode cL_law 672 = .ok (.iload_n 3, 1) := by decide +kernel
theorem dL_law_673 : decode cL_law 673 = .ok (.iconst 2, 1) := by decide +kernel
theorem dL_law_674 : decode cL_law 674 = .ok (.iadd, 1) := by decide +kernel
theorem dL_law_675 : decode cL_law 675 = .ok (.iaload, 1) := by decide +kernel
theorem dL_law_676 : decode cL_law 676 = .ok (.invokevirtual 78, 3) := by decide +kernel
theorem dL_law_679 : decode cL_law 679 = .ok (.aload_n 2, 1) := by decide +kernel
theorem dL_law_680 : decode cL_law 680 = .ok (.aload_n 0, 1) := by decide +kernel
theorem dL_law_681 : decode cL_law 681 = .ok (.iload_n 3, 1) := by decide +kernel
theorem dL_law_682 : decode cL_law 682 = .ok (.iconst 1, 1) := by decide +kernel
theorem dL_law_683 : decode cL_law 683 = .ok (.iadd, 1) := by decide +kernel
theorem dL_law_684 : decode cL_law 684 = .ok (.iaload, 1) := by decide +kernel
theorem dL_law_685 : decode cL_law 685 = .ok (.aload_n 0, 1) := by decide +kernel
theorem dL_law_686 : decode cL_law 686 = .ok (.iload_n 3, 1) := by decide +kernel
theorem dL_law_687 : decode cL_law 687 = .ok (.iconst 2, 1) := by decide +kernel
theorem dL_law_688 : decode cL_law 688 = .ok (.iadd, 1) := by decide +kernel
theorem dL_law_689 : decode cL_law 689 = .ok (.iaload, 1) := by decide +kernel
theorem dL_law_690 : decode cL_law 690 = .ok (.invokevirtual 81, 3) := by decide +kernel
theorem dL_law_693 : decode cL_law 693 = .ok (.if_icmp .eq 609, 3) := by decide +kernel
theorem dL_law_696 : decode cL_law 696 = .ok (.iconst 0, 1) := by decide +kernel
theorem dL_law_697 : decode cL_law 697 = .ok (.ireturn, 1) := by decide +kernel
theorem dL_law_698 : decode cL_law 698 = .ok (.aload_n 1, 1) := by decide +kernel
theorem dL_law_699 : decode cL_law 699 = .ok (.aload_n 0, 1) := by decide +kernel
theorem dL_law_700 : decode cL_law 700 = .ok (.iload_n 3, 1) := by decide +kernel
theorem dL_law_701 : decode cL_law 701 = .ok (.iconst 1, 1) := by decide +kernel
theorem dL_law_702 : decode cL_law 702 = .ok (.iadd, 1) := by decide +kernel
theorem dL_law_703 : decode cL_law 703 = .ok (.iaload, 1) := by decide +kernel
theorem dL_law_704 : decode cL_law 704 = .ok (.aload_n 0, 1) := by decide +kernel
theorem dL_law_705 : decode cL_law 705 = .ok (.iload_n 3, 1) := by decide +kernel
theorem dL_law_706 : decode cL_law 706 = .ok (.iconst 2, 1) := by decide +kernel
theorem dL_law_707 : decode cL_law 707 = .ok (.iadd, 1) := by decide +kernel
theorem dL_law_708 : decode cL_law 708 = .ok (.iaload, 1) := by decide +kernel
theorem dL_law_709 : decode cL_law 709 = .ok (.invokevirtual 82, 3) := by decide +kernel
theorem dL_law_712 : decode cL_law 712 = .ok (.aload_n 2, 1) := by decide +kernel
theorem dL_law_713 : decode cL_law 713 = .ok (.aload_n 0, 1) := by decide +kernel
theorem dL_law_714 : decode cL_law 714 = .ok (.iload_n 3, 1) := by decide +kernel
theorem dL_law_715 : decode cL_law 715 = .ok (.iconst 1, 1) := by decide +kernel
theorem dL_law_716 : decode cL_law 716 = .ok (.iadd, 1) := by decide +kernel
theorem dL_law_717 : decode cL_law 717 = .ok (.iaload, 1) := by decide +kernel
theorem dL_law_718 : decode cL_law 718 = .ok (.aload_n 0, 1) := by decide +kernel
theorem dL_law_719 : decode cL_law 719 = .ok (.iload_n 3, 1) := by decide +kernel
theorem dL_law_720 : decode cL_law 720 = .ok (.iconst 2, 1) := by decide +kernel
theorem dL_law_721 : decode cL_law 721 = .ok (.iadd, 1) := by decide +kernel
theorem dL_law_722 : decode cL_law 722 = .ok (.iaload, 1) := by decide +kernel
theorem dL_law_723 : decode cL_law 723 = .ok (.invokevirtual 85, 3) := by decide +kernel
theorem dL_law_726 : decode cL_law 726 = .ok (.if_icmp .eq 576, 3) := by decide +kernel
theorem dL_law_729 : decode cL_law 729 = .ok (.iconst 0, 1) := by decide +kernel
theorem dL_law_730 : decode cL_law 730 = .ok (.ireturn, 1) := by decide +kernel
theorem dL_law_731 : decode cL_law 731 = .ok (.aload_n 1, 1) := by decide +kernel
theorem dL_law_732 : decode cL_law 732 = .ok (.aload_n 0, 1) := by decide +kernel
theorem dL_law_733 : decode cL_law 733 = .ok (.iload_n 3, 1) := by decide +kernel
theorem dL_law_734 : decode cL_law 734 = .ok (.iconst 1, 1) := by decide +kernel
theorem dL_law_735 : decode cL_law 735 = .ok (.iadd, 1) := by decide +kernel
theorem dL_law_736 : decode cL_law 736 = .ok (.iaload, 1) := by decide +kernel
theorem dL_law_737 : decode cL_law 737 = .ok (.aload_n 0, 1) := by decide +kernel
theorem dL_law_738 : decode cL_law 738 = .ok (.iload_n 3, 1) := by decide +kernel
theorem dL_law_739 : decode cL_law 739 = .ok (.iconst 2, 1) := by decide +kernel
theorem dL_law_740 : decode cL_law 740 = .ok (.iadd, 1) := by decide +kernel
theorem dL_law_741 : decode cL_law 741 = .ok (.iaload, 1) := by decide +kernel
theorem dL_law_742 : decode cL_law 742 = .ok (.invokevirtual 86, 3) := by decide +kernel
theorem dL_law_745 : decode cL_law 745 = .ok (.aload_n 2, 1) := by decide +kernel
theorem dL_law_746 : decode cL_law 746 = .ok (.aload_n 0, 1) := by decide +kernel
theorem dL_law_747 : decode cL_law 747 = .ok (.iload_n 3, 1) := by decide +kernel
theorem dL_law_748 : decode cL_law 748 = .ok (.iconst 1, 1) := by decide +kernel
theorem dL_law_749 : decode cL_law 749 = .ok (.iadd, 1) := by decide +kernel
theorem dL_law_750 : decode cL_law 750 = .ok (.iaload, 1) := by decide +kernel
theorem dL_law_751 : decode cL_law 751 = .ok (.aload_n 0, 1) := by decide +kernel
theorem dL_law_752 : decode cL_law 752 = .ok (.iload_n 3, 1) := by decide +kernel
theorem dL_law_753 : decode cL_law 753 = .ok (.iconst 2, 1) := by decide +kernel
theorem dL_law_754 : decode cL_law 754 = .ok (.iadd, 1) := by decide +kernel
theorem dL_law_755 : decode cL_law 755 = .ok (.iaload, 1) := by decide +kernel
theorem dL_law_756 : decode cL_law 756 = .ok (.invokevirtual 90, 3) := by decide +kernel
theorem dL_law_759 : decode cL_law 759 = .ok (.lcmp, 1) := by decide +kernel
theorem dL_law_760 : decode cL_law 760 = .ok (.ifCond .eq 542, 3) := by decide +kernel
theorem dL_law_763 : decode cL_law 763 = .ok (.iconst 0, 1) := by decide +kernel
theorem dL_law_764 : decode cL_law 764 = .ok (.ireturn, 1) := by decide +kernel
theorem dL_law_765 : decode cL_law 765 = .ok (.aload_n 1, 1) := by decide +kernel
theorem dL_law_766 : decode cL_law 766 = .ok (.aload_n 0, 1) := by decide +kernel
theorem dL_law_767 : decode cL_law 767 = .ok (.iload_n 3, 1) := by decide +kernel
theorem dL_law_768 : decode cL_law 768 = .ok (.iconst 1, 1) := by decide +kernel
theorem dL_law_769 : decode cL_law 769 = .ok (.iadd, 1) := by decide +kernel
theorem dL_law_770 : decode cL_law 770 = .ok (.iaload, 1) := by decide +kernel
theorem dL_law_771 : decode cL_law 771 = .ok (.aload_n 0, 1) := by decide +kernel
theorem dL_law_772 : decode cL_law 772 = .ok (.iload_n 3, 1) := by decide +kernel
theorem dL_law_773 : decode cL_law 773 = .ok (.iconst 2, 1) := by decide +kernel
theorem dL_law_774 : decode cL_law 774 = .ok (.iadd, 1) := by decide +kernel
theorem dL_law_775 : decode cL_law 775 = .ok (.iaload, 1) := by decide +kernel
theorem dL_law_776 : decode cL_law 776 = .ok (.aload_n 0, 1) := by decide +kernel
theorem dL_law_777 : decode cL_law 777 = .ok (.iload_n 3, 1) := by decide +kernel
theorem dL_law_778 : decode cL_law 778 = .ok (.iconst 3, 1) := by decide +kernel
theorem dL_law_779 : decode cL_law 779 = .ok (.iadd, 1) := by decide +kernel
theorem dL_law_780 : decode cL_law 780 = .ok (.iaload, 1) := by decide +kernel
theorem dL_law_781 : decode cL_law 781 = .ok (.invokevirtual 91, 3) := by decide +kernel
theorem dL_law_784 : decode cL_law 784 = .ok (.aload_n 2, 1) := by decide +kernel
theorem dL_law_785 : decode cL_law 785 = .ok (.aload_n 0, 1) := by decide +kernel
theorem dL_law_786 : decode cL_law 786 = .ok (.iload_n 3, 1) := by decide +kernel
theorem dL_law_787 : decode cL_law 787 = .ok (.iconst 1, 1) := by decide +kernel
theorem dL_law_788 : decode cL_law 788 = .ok (.iadd, 1) := by decide +kernel
theorem dL_law_789 : decode cL_law 789 = .ok (.iaload, 1) := by decide +kernel
theorem dL_law_790 : decode cL_law 790 = .ok (.aload_n 0, 1) := by decide +kernel
theorem dL_law_791 : decode cL_law 791 = .ok (.iload_n 3, 1) := by decide +kernel
theorem dL_law_792 : decode cL_law 792 = .ok (.iconst 2, 1) := by decide +kernel
theorem dL_law_793 : decode cL_law 793 = .ok (.iadd, 1) := by decide +kernel
theorem dL_law_794 : decode cL_law 794 = .ok (.iaload, 1) := by decide +kernel
theorem dL_law_795 : decode cL_law 795 = .ok (.aload_n 0, 1) := by decide +kernel
theorem dL_law_796 : decode cL_law 796 = .ok (.iload_n 3, 1) := by decide +kernel
theorem dL_law_797 : decode cL_law 797 = .ok (.iconst 3, 1) := by decide +kernel
theorem dL_law_798 : decode cL_law 798 = .ok (.iadd, 1) := by decide +kernel
theorem dL_law_799 : decode cL_law 799 = .ok (.iaload, 1) := by decide +kernel
theorem dL_law_800 : decode cL_law 800 = .ok (.invokevirtual 95, 3) := by decide +kernel
theorem dL_law_803 : decode cL_law 803 = .ok (.lcmp, 1) := by decide +kernel
theorem dL_law_804 : decode cL_law 804 = .ok (.ifCond .eq 498, 3) := by decide +kernel
theorem dL_law_807 : decode cL_law 807 = .ok (.iconst 0, 1) := by decide +kernel
theorem dL_law_808 : decode cL_law 808 = .ok (.ireturn, 1) := by decide +kernel
theorem dL_law_809 : decode cL_law 809 = .ok (.aload_n 1, 1) := by decide +kernel
theorem dL_law_810 : decode cL_law 810 = .ok (.aload_n 0, 1) := by decide +kernel
theorem dL_law_811 : decode cL_law 811 = .ok (.iload_n 3, 1) := by decide +kernel
theorem dL_law_812 : decode cL_law 812 = .ok (.iconst 1, 1) := by decide +kernel
theorem dL_law_813 : decode cL_law 813 = .ok (.iadd, 1) := by decide +kernel
theorem dL_law_814 : decode cL_law 814 = .ok (.iaload, 1) := by decide +kernel
theorem dL_law_815 : decode cL_law 815 = .ok (.invokevirtual 96, 3) := by decide +kernel
theorem dL_law_818 : decode cL_law 818 = .ok (.aload_n 2, 1) := by decide +kernel
theorem dL_law_819 : decode cL_law 819 = .ok (.aload_n 0, 1) := by decide +kernel
theorem dL_law_820 : decode cL_law 820 = .ok (.iload_n 3, 1) := by decide +kernel
theorem dL_law_821 : decode cL_law 821 = .ok (.iconst 1, 1) := by decide +kernel
theorem dL_law_822 : decode cL_law 822 = .ok (.iadd, 1) := by decide +kernel
theorem dL_law_823 : decode cL_law 823 = .ok (.iaload, 1) := by decide +kernel
theorem dL_law_824 : decode cL_law 824 = .ok (.invokevirtual 99, 3) := by decide +kernel
theorem dL_law_827 : decode cL_law 827 = .ok (.if_icmp .eq 475, 3) := by decide +kernel
theorem dL_law_830 : decode cL_law 830 = .ok (.iconst 0, 1) := by decide +kernel
theorem dL_law_831 : decode cL_law 831 = .ok (.ireturn, 1) := by decide +kernel
theorem dL_law_832 : decode cL_law 832 = .ok (.aload_n 1, 1) := by decide +kernel
theorem dL_law_833 : decode cL_law 833 = .ok (.aload_n 0, 1) := by decide +kernel
theorem dL_law_834 : decode cL_law 834 = .ok (.iload_n 3, 1) := by decide +kernel
theorem dL_law_835 : decode cL_law 835 = .ok (.iconst 1, 1) := by decide +kernel
theorem dL_law_836 : decode cL_law 836 = .ok (.iadd, 1) := by decide +kernel
theorem dL_law_837 : decode cL_law 837 = .ok (.iaload, 1) := by decide +kernel
theorem dL_law_838 : decode cL_law 838 = .ok (.aload_n 0, 1) := by decide +kernel
theorem dL_law_839 : decode cL_law 839 = .ok (.iload_n 3, 1) := by decide +kernel
theorem dL_law_840 : decode cL_law 840 = .ok (.iconst 2, 1) := by decide +kernel
theorem dL_law_841 : decode cL_law 841 = .ok (.iadd, 1) := by decide +kernel
theorem dL_law_842 : decode cL_law 842 = .ok (.iaload, 1) := by decide +kernel
theorem dL_law_843 : decode cL_law 843 = .ok (.invokevirtual 100, 3) := by decide +kernel
theorem dL_law_846 : decode cL_law 846 = .ok (.aload_n 2, 1) := by decide +kernel
theorem dL_law_847 : decode cL_law 847 = .ok (.aload_n 0, 1) := by decide +kernel
theorem dL_law_848 : decode cL_law 848 = .ok (.iload_n 3, 1) := by decide +kernel
theorem dL_law_849 : decode cL_law 849 = .ok (.iconst 1, 1) := by decide +kernel
theorem dL_law_850 : decode cL_law 850 = .ok (.iadd, 1) := by decide +kernel
theorem dL_law_851 : decode cL_law 851 = .ok (.iaload, 1) := by decide +kernel
theorem dL_law_852 : decode cL_law 852 = .ok (.aload_n 0, 1) := by decide +kernel
theorem dL_law_853 : decode cL_law 853 = .ok (.iload_n 3, 1) := by decide +kernel
theorem dL_law_854 : decode cL_law 854 = .ok (.iconst 2, 1) := by decide +kernel
theorem dL_law_855 : decode cL_law 855 = .ok (.iadd, 1) := by decide +kernel
theorem dL_law_856 : decode cL_law 856 = .ok (.iaload, 1) := by decide +kernel
theorem dL_law_857 : decode cL_law 857 = .ok (.invokevirtual 103, 3) := by decide +kernel
theorem dL_law_860 : decode cL_law 860 = .ok (.if_icmp .eq 442, 3) := by decide +kernel
theorem dL_law_863 : decode cL_law 863 = .ok (.iconst 0, 1) := by decide +kernel
theorem dL_law_864 : decode cL_law 864 = .ok (.ireturn, 1) := by decide +kernel
theorem dL_law_865 : decode cL_law 865 = .ok (.aload_n 1, 1) := by decide +kernel
theorem dL_law_866 : decode cL_law 866 = .ok (.aload_n 0, 1) := by decide +kernel
theorem dL_law_867 : decode cL_law 867 = .ok (.iload_n 3, 1) := by decide +kernel
theorem dL_law_868 : decode cL_law 868 = .ok (.iconst 1, 1) := by decide +kernel
theorem dL_law_869 : decode cL_law 869 = .ok (.iadd, 1) := by decide +kernel
theorem dL_law_870 : decode cL_law 870 = .ok (.iaload, 1) := by decide +kernel
theorem dL_law_871 : decode cL_law 871 = .ok (.aload_n 0, 1) := by decide +kernel
theorem dL_law_872 : decode cL_law 872 = .ok (.iload_n 3, 1) := by decide +kernel
theorem dL_law_873 : decode cL_law 873 = .ok (.iconst 2, 1) := by decide +kernel
theorem dL_law_874 : decode cL_law 874 = .ok (.iadd, 1) := by decide +kernel
theorem dL_law_875 : decode cL_law 875 = .ok (.iaload, 1) := by decide +kernel
theorem dL_law_876 : decode cL_law 876 = .ok (.invokevirtual 104, 3) := by decide +kernel
theorem dL_law_879 : decode cL_law 879 = .ok (.aload_n 2, 1) := by decide +kernel
theorem dL_law_880 : decode cL_law 880 = .ok (.aload_n 0, 1) := by decide +kernel
theorem dL_law_881 : decode cL_law 881 = .ok (.iload_n 3, 1) := by decide +kernel
theorem dL_law_882 : decode cL_law 882 = .ok (.iconst 1, 1) := by decide +kernel
theorem dL_law_883 : decode cL_law 883 = .ok (.iadd, 1) := by decide +kernel
theorem dL_law_884 : decode cL_law 884 = .ok (.iaload, 1) := by decide +kernel
theorem dL_law_885 : decode cL_law 885 = .ok (.aload_n 0, 1) := by decide +kernel
theorem dL_law_886 : decode cL_law 886 = .ok (.iload_n 3, 1) := by decide +kernel
theorem dL_law_887 : decode cL_law 887 = .ok (.iconst 2, 1) := by decide +kernel
theorem dL_law_888 : decode cL_law 888 = .ok (.iadd, 1) := by decide +kernel
theorem dL_law_889 : decode cL_law 889 = .ok (.iaload, 1) := by decide +kernel
theorem dL_law_890 : decode cL_law 890 = .ok (.invokevirtual 107, 3) := by decide +kernel
theorem dL_law_893 : decode cL_law 893 = .ok (.if_icmp .eq 409, 3) := by decide +kernel
theorem dL_law_896 : decode cL_law 896 = .ok (.iconst 0, 1) := by decide +kernel
theorem dL_law_897 : decode cL_law 897 = .ok (.ireturn, 1) := by decide +kernel
theorem dL_law_898 : decode cL_law 898 = .ok (.aload_n 1, 1) := by decide +kernel
theorem dL_law_899 : decode cL_law 899 = .ok (.aload_n 0, 1) := by decide +kernel
theorem dL_law_900 : decode cL_law 900 = .ok (.iload_n 3, 1) := by decide +kernel
theorem dL_law_901 : decode cL_law 901 = .ok (.iconst 1, 1) := by decide +kernel
theorem dL_law_902 : decode cL_law 902 = .ok (.iadd, 1) := by decide +kernel
theorem dL_law_903 : decode cL_law 903 = .ok (.iaload, 1) := by decide +kernel
theorem dL_law_904 : decode cL_law 904 = .ok (.aload_n 0, 1) := by decide +kernel
theorem dL_law_905 : decode cL_law 905 = .ok (.iload_n 3, 1) := by decide +kernel
theorem dL_law_906 : decode cL_law 906 = .ok (.iconst 2, 1) := by decide +kernel
theorem dL_law_907 : decode cL_law 907 = .ok (.iadd, 1) := by decide +kernel
theorem dL_law_908 : decode cL_law 908 = .ok (.iaload, 1) := by decide +kernel
theorem dL_law_909 : decode cL_law 909 = .ok (.aload_n 0, 1) := by decide +kernel
theorem dL_law_910 : decode cL_law 910 = .ok (.iload_n 3, 1) := by decide +kernel
theorem dL_law_911 : decode cL_law 911 = .ok (.iconst 3, 1) := by decide +kernel
theorem dL_law_912 : decode cL_law 912 = .ok (.iadd, 1) := by decide +kernel
theorem dL_law_913 : decode cL_law 913 = .ok (.iaload, 1) := by decide +kernel
theorem dL_law_914 : decode cL_law 914 = .ok (.invokevirtual 108, 3) := by decide +kernel
theorem dL_law_917 : decode cL_law 917 = .ok (.aload_n 2, 1) := by decide +kernel
theorem dL_law_918 : decode cL_law 918 = .ok (.aload_n 0, 1) := by decide +kernel
theorem dL_law_919 : decode cL_law 919 = .ok (.iload_n 3, 1) := by decide +kernel
theorem dL_law_920 : decode cL_law 920 = .ok (.iconst 1, 1) := by decide +kernel
theorem dL_law_921 : decode cL_law 921 = .ok (.iadd, 1) := by decide +kernel
theorem dL_law_922 : decode cL_law 922 = .ok (.iaload, 1) := by decide +kernel
theorem dL_law_923 : decode cL_law 923 = .ok (.aload_n 0, 1) := by decide +kernel
theorem dL_law_924 : decode cL_law 924 = .ok (.iload_n 3, 1) := by decide +kernel
theorem dL_law_925 : decode cL_law 925 = .ok (.iconst 2, 1) := by decide +kernel
theorem dL_law_926 : decode cL_law 926 = .ok (.iadd, 1) := by decide +kernel
theorem dL_law_927 : decode cL_law 927 = .ok (.iaload, 1) := by decide +kernel
theorem dL_law_928 : decode cL_law 928 = .ok (.aload_n 0, 1) := by decide +kernel
theorem dL_law_929 : decode cL_law 929 = .ok (.iload_n 3, 1) := by decide +kernel
theorem dL_law_930 : decode cL_law 930 = .ok (.iconst 3, 1) := by decide +kernel
theorem dL_law_931 : decode cL_law 931 = .ok (.iadd, 1) := by decide +kernel
theorem dL_law_932 : decode cL_law 932 = .ok (.iaload, 1) := by decide +kernel
theorem dL_law_933 : decode cL_law 933 = .ok (.invokevirtual 111, 3) := by decide +kernel
theorem dL_law_936 : decode cL_law 936 = .ok (.if_icmp .eq 366, 3) := by decide +kernel
theorem dL_law_939 : decode cL_law 939 = .ok (.iconst 0, 1) := by decide +kernel
theorem dL_law_940 : decode cL_law 940 = .ok (.ireturn, 1) := by decide +kernel
theorem dL_law_941 : decode cL_law 941 = .ok (.aload_n 1, 1) := by decide +kernel
theorem dL_law_942 : decode cL_law 942 = .ok (.invokevirtual 112, 3) := by decide +kernel
theorem dL_law_945 : decode cL_law 945 = .ok (.aload_n 2, 1) := by decide +kernel
theorem dL_law_946 : decode cL_law 946 = .ok (.invokevirtual 115, 3) := by decide +kernel
theorem dL_law_949 : decode cL_law 949 = .ok (.if_icmp .eq 353, 3) := by decide +kernel
theorem dL_law_952 : decode cL_law 952 = .ok (.iconst 0, 1) := by decide +kernel
theorem dL_law_953 : decode cL_law 953 = .ok (.ireturn, 1) := by decide +kernel
theorem dL_law_954 : decode cL_law 954 = .ok (.aload_n 1, 1) := by decide +kernel
theorem dL_law_955 : decode cL_law 955 = .ok (.invokevirtual 116, 3) := by decide +kernel
theorem dL_law_958 : decode cL_law 958 = .ok (.aload_n 2, 1) := by decide +kernel
theorem dL_law_959 : decode cL_law 959 = .ok (.invokevirtual 119, 3) := by decide +kernel
theorem dL_law_962 : decode cL_law 962 = .ok (.if_icmp .eq 340, 3) := by decide +kernel
theorem dL_law_965 : decode cL_law 965 = .ok (.iconst 0, 1) := by decide +kernel
theorem dL_law_966 : decode cL_law 966 = .ok (.ireturn, 1) := by decide +kernel
theorem dL_law_967 : decode cL_law 967 = .ok (.aload_n 1, 1) := by decide +kernel
theorem dL_law_968 : decode cL_law 968 = .ok (.aload_n 0, 1) := by decide +kernel
theorem dL_law_969 : decode cL_law 969 = .ok (.iload_n 3, 1) := by decide +kernel
theorem dL_law_970 : decode cL_law 970 = .ok (.iconst 1, 1) := by decide +kernel
theorem dL_law_971 : decode cL_law 971 = .ok (.iadd, 1) := by decide +kernel
theorem dL_law_972 : decode cL_law 972 = .ok (.iaload, 1) := by decide +kernel
theorem dL_law_973 : decode cL_law 973 = .ok (.aload_n 0, 1) := by decide +kernel
theorem dL_law_974 : decode cL_law 974 = .ok (.iload_n 3, 1) := by decide +kernel
theorem dL_law_975 : decode cL_law 975 = .ok (.iconst 2, 1) := by decide +kernel
theorem dL_law_976 : decode cL_law 976 = .ok (.iadd, 1) := by decide +kernel
theorem dL_law_977 : decode cL_law 977 = .ok (.iaload, 1) := by decide +kernel
theorem dL_law_978 : decode cL_law 978 = .ok (.aload_n 0, 1) := by decide +kernel
theorem dL_law_979 : decode cL_law 979 = .ok (.iload_n 3, 1) := by decide +kernel
theorem dL_law_980 : decode cL_law 980 = .ok (.iconst 3, 1) := by decide +kernel
theorem dL_law_981 : decode cL_law 981 = .ok (.iadd, 1) := by decide +kernel
theorem dL_law_982 : decode cL_law 982 = .ok (.iaload, 1) := by decide +kernel
theorem dL_law_983 : decode cL_law 983 = .ok (.invokevirtual 120, 3) := by decide +kernel
theorem dL_law_986 : decode cL_law 986 = .ok (.aload_n 2, 1) := by decide +kernel
theorem dL_law_987 : decode cL_law 987 = .ok (.aload_n 0, 1) := by decide +kernel
theorem dL_law_988 : decode cL_law 988 = .ok (.iload_n 3, 1) := by decide +kernel
theorem dL_law_989 : decode cL_law 989 = .ok (.iconst 1, 1) := by decide +kernel
theorem dL_law_990 : decode cL_law 990 = .ok (.iadd, 1) := by decide +kernel
theorem dL_law_991 : decode cL_law 991 = .ok (.iaload, 1) := by decide +kernel
theorem dL_law_992 : decode cL_law 992 = .ok (.aload_n 0, 1) := by decide +kernel
theorem dL_law_993 : decode cL_law 993 = .ok (.iload_n 3, 1) := by decide +kernel
theorem dL_law_994 : decode cL_law 994 = .ok (.iconst 2, 1) := by decide +kernel
theorem dL_law_995 : decode cL_law 995 = .ok (.iadd, 1) := by decide +kernel
theorem dL_law_996 : decode cL_law 996 = .ok (.iaload, 1) := by decide +kernel
theorem dL_law_997 : decode cL_law 997 = .ok (.aload_n 0, 1) := by decide +kernel
theorem dL_law_998 : decode cL_law 998 = .ok (.iload_n 3, 1) := by decide +kernel
theorem dL_law_999 : decode cL_law 999 = .ok (.iconst 3, 1) := by decide +kernel
theorem dL_law_1000 : decode cL_law 1000 = .ok (.iadd, 1) := by decide +kernel
theorem dL_law_1001 : decode cL_law 1001 = .ok (.iaload, 1) := by decide +kernel
theorem dL_law_1002 : decode cL_law 1002 = .ok (.invokevirtual 123, 3) := by decide +kernel
theorem dL_law_1005 : decode cL_law 1005 = .ok (.if_icmp .eq 297, 3) := by decide +kernel
theorem dL_law_1008 : decode cL_law 1008 = .ok (.iconst 0, 1) := by decide +kernel
theorem dL_law_1009 : decode cL_law 1009 = .ok (.ireturn, 1) := by decide +kernel
theorem dL_law_1010 : decode cL_law 1010 = .ok (.aload_n 1, 1) := by decide +kernel
theorem dL_law_1011 : decode cL_law 1011 = .ok (.aload_n 0, 1) := by decide +kernel
theorem dL_law_1012 : decode cL_law 1012 = .ok (.iload_n 3, 1) := by decide +kernel
theorem dL_law_1013 : decode cL_law 1013 = .ok (.iconst 1, 1) := by decide +kernel
theorem dL_law_1014 : decode cL_law 1014 = .ok (.iadd, 1) := by decide +kernel
theorem dL_law_1015 : decode cL_law 1015 = .ok (.iaload, 1) := by decide +kernel
theorem dL_law_1016 : decode cL_law 1016 = .ok (.invokevirtual 124, 3) := by decide +kernel
theorem dL_law_1019 : decode cL_law 1019 = .ok (.aload_n 2, 1) := by decide +kernel
theorem dL_law_1020 : decode cL_law 1020 = .ok (.aload_n 0, 1) := by decide +kernel
theorem dL_law_1021 : decode cL_law 1021 = .ok (.iload_n 3, 1) := by decide +kernel
theorem dL_law_1022 : decode cL_law 1022 = .ok (.iconst 1, 1) := by decide +kernel
theorem dL_law_1023 : decode cL_law 1023 = .ok (.iadd, 1) := by decide +kernel
theorem dL_law_1024 : decode cL_law 1024 = .ok (.iaload, 1) := by decide +kernel
theorem dL_law_1025 : decode cL_law 1025 = .ok (.invokevirtual 127, 3) := by decide +kernel
theorem dL_law_1028 : decode cL_law 1028 = .ok (.if_icmp .eq 274, 3) := by decide +kernel
theorem dL_law_1031 : decode cL_law 1031 = .ok (.iconst 0, 1) := by decide +kernel
theorem dL_law_1032 : decode cL_law 1032 = .ok (.ireturn, 1) := by decide +kernel
theorem dL_law_1033 : decode cL_law 1033 = .ok (.aload_n 1, 1) := by decide +kernel
theorem dL_law_1034 : decode cL_law 1034 = .ok (.aload_n 0, 1) := by decide +kernel
theorem dL_law_1035 : decode cL_law 1035 = .ok (.iload_n 3, 1) := by decide +kernel
theorem dL_law_1036 : decode cL_law 1036 = .ok (.iconst 1, 1) := by decide +kernel
theorem dL_law_1037 : decode cL_law 1037 = .ok (.iadd, 1) := by decide +kernel
theorem dL_law_1038 : decode cL_law 1038 = .ok (.iaload, 1) := by decide +kernel
theorem dL_law_1039 : decode cL_law 1039 = .ok (.aload_n 0, 1) := by decide +kernel
theorem dL_law_1040 : decode cL_law 1040 = .ok (.iload_n 3, 1) := by decide +kernel
theorem dL_law_1041 : decode cL_law 1041 = .ok (.iconst 2, 1) := by decide +kernel
theorem dL_law_1042 : decode cL_law 1042 = .ok (.iadd, 1) := by decide +kernel
theorem dL_law_1043 : decode cL_law 1043 = .ok (.iaload, 1) := by decide +kernel
theorem dL_law_1044 : decode cL_law 1044 = .ok (.invokevirtual 128, 3) := by decide +kernel
theorem dL_law_1047 : decode cL_law 1047 = .ok (.aload_n 2, 1) := by decide +kernel
theorem dL_law_1048 : decode cL_law 1048 = .ok (.aload_n 0, 1) := by decide +kernel
theorem dL_law_1049 : decode cL_law 1049 = .ok (.iload_n 3, 1) := by decide +kernel
theorem dL_law_1050 : decode cL_law 1050 = .ok (.iconst 1, 1) := by decide +kernel
theorem dL_law_1051 : decode cL_law 1051 = .ok (.iadd, 1) := by decide +kernel
theorem dL_law_1052 : decode cL_law 1052 = .ok (.iaload, 1) := by decide +kernel
theorem dL_law_1053 : decode cL_law 1053 = .ok (.aload_n 0, 1) := by decide +kernel
theorem dL_law_1054 : decode cL_law 1054 = .ok (.iload_n 3, 1) := by decide +kernel
theorem dL_law_1055 : decode cL_law 1055 = .ok (.iconst 2, 1) := by decide +kernel
theorem dL_law_1056 : decode cL_law 1056 = .ok (.iadd, 1) := by decide +kernel
theorem dL_law_1057 : decode cL_law 1057 = .ok (.iaload, 1) := by decide +kernel
theorem dL_law_1058 : decode cL_law 1058 = .ok (.invokevirtual 131, 3) := by decide +kernel
theorem dL_law_1061 : decode cL_law 1061 = .ok (.if_icmp .eq 241, 3) := by decide +kernel
theorem dL_law_1064 : decode cL_law 1064 = .ok (.iconst 0, 1) := by decide +kernel
theorem dL_law_1065 : decode cL_law 1065 = .ok (.ireturn, 1) := by decide +kernel
theorem dL_law_1066 : decode cL_law 1066 = .ok (.aload_n 1, 1) := by decide +kernel
theorem dL_law_1067 : decode cL_law 1067 = .ok (.aload_n 0, 1) := by decide +kernel
theorem dL_law_1068 : decode cL_law 1068 = .ok (.iload_n 3, 1) := by decide +kernel
theorem dL_law_1069 : decode cL_law 1069 = .ok (.iconst 1, 1) := by decide +kernel
theorem dL_law_1070 : decode cL_law 1070 = .ok (.iadd, 1) := by decide +kernel
theorem dL_law_1071 : decode cL_law 1071 = .ok (.iaload, 1) := by decide +kernel
theorem dL_law_1072 : decode cL_law 1072 = .ok (.invokevirtual 132, 3) := by decide +kernel
theorem dL_law_1075 : decode cL_law 1075 = .ok (.aload_n 2, 1) := by decide +kernel
theorem dL_law_1076 : decode cL_law 1076 = .ok (.aload_n 0, 1) := by decide +kernel
theorem dL_law_1077 : decode cL_law 1077 = .ok (.iload_n 3, 1) := by decide +kernel
theorem dL_law_1078 : decode cL_law 1078 = .ok (.iconst 1, 1) := by decide +kernel
theorem dL_law_1079 : decode cL_law 1079 = .ok (.iadd, 1) := by decide +kernel
theorem dL_law_1080 : decode cL_law 1080 = .ok (.iaload, 1) := by decide +kernel
theorem dL_law_1081 : decode cL_law 1081 = .ok (.invokevirtual 135, 3) := by decide +kernel
theorem dL_law_1084 : decode cL_law 1084 = .ok (.if_icmp .eq 218, 3) := by decide +kernel
theorem dL_law_1087 : decode cL_law 1087 = .ok (.iconst 0, 1) := by decide +kernel
theorem dL_law_1088 : decode cL_law 1088 = .ok (.ireturn, 1) := by decide +kernel
theorem dL_law_1089 : decode cL_law 1089 = .ok (.aload_n 1, 1) := by decide +kernel
theorem dL_law_1090 : decode cL_law 1090 = .ok (.aload_n 0, 1) := by decide +kernel
theorem dL_law_1091 : decode cL_law 1091 = .ok (.iload_n 3, 1) := by decide +kernel
theorem dL_law_1092 : decode cL_law 1092 = .ok (.iconst 1, 1) := by decide +kernel
theorem dL_law_1093 : decode cL_law 1093 = .ok (.iadd, 1) := by decide +kernel
theorem dL_law_1094 : decode cL_law 1094 = .ok (.iaload, 1) := by decide +kernel
theorem dL_law_1095 : decode cL_law 1095 = .ok (.aload_n 0, 1) := by decide +kernel
theorem dL_law_1096 : decode cL_law 1096 = .ok (.iload_n 3, 1) := by decide +kernel
theorem dL_law_1097 : decode cL_law 1097 = .ok (.iconst 2, 1) := by decide +kernel
theorem dL_law_1098 : decode cL_law 1098 = .ok (.iadd, 1) := by decide +kernel
theorem dL_law_1099 : decode cL_law 1099 = .ok (.iaload, 1) := by decide +kernel
theorem dL_law_1100 : decode cL_law 1100 = .ok (.aload_n 0, 1) := by decide +kernel
theorem dL_law_1101 : decode cL_law 1101 = .ok (.iload_n 3, 1) := by decide +kernel
theorem dL_law_1102 : decode cL_law 1102 = .ok (.iconst 3, 1) := by decide +kernel
theorem dL_law_1103 : decode cL_law 1103 = .ok (.iadd, 1) := by decide +kernel
theorem dL_law_1104 : decode cL_law 1104 = .ok (.iaload, 1) := by decide +kernel
theorem dL_law_1105 : decode cL_law 1105 = .ok (.invokevirtual 136, 3) := by decide +kernel
theorem dL_law_1108 : decode cL_law 1108 = .ok (.aload_n 2, 1) := by decide +kernel
theorem dL_law_1109 : decode cL_law 1109 = .ok (.aload_n 0, 1) := by decide +kernel
theorem dL_law_1110 : decode cL_law 1110 = .ok (.iload_n 3, 1) := by decide +kernel
theorem dL_law_1111 : decode cL_law 1111 = .ok (.iconst 1, 1) := by decide +kernel
theorem dL_law_1112 : decode cL_law 1112 = .ok (.iadd, 1) := by decide +kernel
theorem dL_law_1113 : decode cL_law 1113 = .ok (.iaload, 1) := by decide +kernel
theorem dL_law_1114 : decode cL_law 1114 = .ok (.aload_n 0, 1) := by decide +kernel
theorem dL_law_1115 : decode cL_law 1115 = .ok (.iload_n 3, 1) := by decide +kernel
theorem dL_law_1116 : decode cL_law 1116 = .ok (.iconst 2, 1) := by decide +kernel
theorem dL_law_1117 : decode cL_law 1117 = .ok (.iadd, 1) := by decide +kernel
theorem dL_law_1118 : decode cL_law 1118 = .ok (.iaload, 1) := by decide +kernel
theorem dL_law_1119 : decode cL_law 1119 = .ok (.aload_n 0, 1) := by decide +kernel
theorem dL_law_1120 : decode cL_law 1120 = .ok (.iload_n 3, 1) := by decide +kernel
theorem dL_law_1121 : decode cL_law 1121 = .ok (.iconst 3, 1) := by decide +kernel
theorem dL_law_1122 : decode cL_law 1122 = .ok (.iadd, 1) := by decide +kernel
theorem dL_law_1123 : decode cL_law 1123 = .ok (.iaload, 1) := by decide +kernel
theorem dL_law_1124 : decode cL_law 1124 = .ok (.invokevirtual 139, 3) := by decide +kernel
theorem dL_law_1127 : decode cL_law 1127 = .ok (.if_icmp .eq 175, 3) := by decide +kernel
theorem dL_law_1130 : decode cL_law 1130 = .ok (.iconst 0, 1) := by decide +kernel
theorem dL_law_1131 : decode cL_law 1131 = .ok (.ireturn, 1) := by decide +kernel
theorem dL_law_1132 : decode cL_law 1132 = .ok (.aload_n 1, 1) := by decide +kernel
theorem dL_law_1133 : decode cL_law 1133 = .ok (.aload_n 0, 1) := by decide +kernel
theorem dL_law_1134 : decode cL_law 1134 = .ok (.iload_n 3, 1) := by decide +kernel
theorem dL_law_1135 : decode cL_law 1135 = .ok (.iconst 1, 1) := by decide +kernel
theorem dL_law_1136 : decode cL_law 1136 = .ok (.iadd, 1) := by decide +kernel
theorem dL_law_1137 : decode cL_law 1137 = .ok (.iaload, 1) := by decide +kernel
theorem dL_law_1138 : decode cL_law 1138 = .ok (.aload_n 0, 1) := by decide +kernel
theorem dL_law_1139 : decode cL_law 1139 = .ok (.iload_n 3, 1) := by decide +kernel
theorem dL_law_1140 : decode cL_law 1140 = .ok (.iconst 2, 1) := by decide +kernel
theorem dL_law_1141 : decode cL_law 1141 = .ok (.iadd, 1) := by decide +kernel
theorem dL_law_1142 : decode cL_law 1142 = .ok (.iaload, 1) := by decide +kernel
theorem dL_law_1143 : decode cL_law 1143 = .ok (.aload_n 0, 1) := by decide +kernel
theorem dL_law_1144 : decode cL_law 1144 = .ok (.iload_n 3, 1) := by decide +kernel
theorem dL_law_1145 : decode cL_law 1145 = .ok (.iconst 3, 1) := by decide +kernel
theorem dL_law_1146 : decode cL_law 1146 = .ok (.iadd, 1) := by decide +kernel
theorem dL_law_1147 : decode cL_law 1147 = .ok (.iaload, 1) := by decide +kernel
theorem dL_law_1148 : decode cL_law 1148 = .ok (.i2l, 1) := by decide +kernel
theorem dL_law_1149 : decode cL_law 1149 = .ok (.bipush 32, 2) := by decide +kernel
theorem dL_law_1151 : decode cL_law 1151 = .ok (.lshl, 1) := by decide +kernel
theorem dL_law_1152 : decode cL_law 1152 = .ok (.aload_n 0, 1) := by decide +kernel
theorem dL_law_1153 : decode cL_law 1153 = .ok (.iload_n 3, 1) := by decide +kernel
theorem dL_law_1154 : decode cL_law 1154 = .ok (.iconst 4, 1) := by decide +kernel
theorem dL_law_1155 : decode cL_law 1155 = .ok (.iadd, 1) := by decide +kernel
theorem dL_law_1156 : decode cL_law 1156 = .ok (.iaload, 1) := by decide +kernel
theorem dL_law_1157 : decode cL_law 1157 = .ok (.i2l, 1) := by decide +kernel
theorem dL_law_1158 : decode cL_law 1158 = .ok (.ldc2_w 140, 3) := by decide +kernel
theorem dL_law_1161 : decode cL_law 1161 = .ok (.land, 1) := by decide +kernel
theorem dL_law_1162 : decode cL_law 1162 = .ok (.lor, 1) := by decide +kernel
theorem dL_law_1163 : decode cL_law 1163 = .ok (.invokevirtual 142, 3) := by decide +kernel
theorem dL_law_1166 : decode cL_law 1166 = .ok (.aload_n 2, 1) := by decide +kernel
theorem dL_law_1167 : decode cL_law 1167 = .ok (.aload_n 0, 1) := by decide +kernel
theorem dL_law_1168 : decode cL_law 1168 = .ok (.iload_n 3, 1) := by decide +kernel
theorem dL_law_1169 : decode cL_law 1169 = .ok (.iconst 1, 1) := by decide +kernel
theorem dL_law_1170 : decode cL_law 1170 = .ok (.iadd, 1) := by decide +kernel
theorem dL_law_1171 : decode cL_law 1171 = .ok (.iaload, 1) := by decide +kernel
theorem dL_law_1172 : decode cL_law 1172 = .ok (.aload_n 0, 1) := by decide +kernel
theorem dL_law_1173 : decode cL_law 1173 = .ok (.iload_n 3, 1) := by decide +kernel
theorem dL_law_1174 : decode cL_law 1174 = .ok (.iconst 2, 1) := by decide +kernel
theorem dL_law_1175 : decode cL_law 1175 = .ok (.iadd, 1) := by decide +kernel
theorem dL_law_1176 : decode cL_law 1176 = .ok (.iaload, 1) := by decide +kernel
theorem dL_law_1177 : decode cL_law 1177 = .ok (.aload_n 0, 1) := by decide +kernel
theorem dL_law_1178 : decode cL_law 1178 = .ok (.iload_n 3, 1) := by decide +kernel
theorem dL_law_1179 : decode cL_law 1179 = .ok (.iconst 3, 1) := by decide +kernel
theorem dL_law_1180 : decode cL_law 1180 = .ok (.iadd, 1) := by decide +kernel
theorem dL_law_1181 : decode cL_law 1181 = .ok (.iaload, 1) := by decide +kernel
theorem dL_law_1182 : decode cL_law 1182 = .ok (.i2l, 1) := by decide +kernel
theorem dL_law_1183 : decode cL_law 1183 = .ok (.bipush 32, 2) := by decide +kernel
theorem dL_law_1185 : decode cL_law 1185 = .ok (.lshl, 1) := by decide +kernel
theorem dL_law_1186 : decode cL_law 1186 = .ok (.aload_n 0, 1) := by decide +kernel
theorem dL_law_1187 : decode cL_law 1187 = .ok (.iload_n 3, 1) := by decide +kernel
theorem dL_law_1188 : decode cL_law 1188 = .ok (.iconst 4, 1) := by decide +kernel
theorem dL_law_1189 : decode cL_law 1189 = .ok (.iadd, 1) := by decide +kernel
theorem dL_law_1190 : decode cL_law 1190 = .ok (.iaload, 1) := by decide +kernel
theorem dL_law_1191 : decode cL_law 1191 = .ok (.i2l, 1) := by decide +kernel
theorem dL_law_1192 : decode cL_law 1192 = .ok (.ldc2_w 140, 3) := by decide +kernel
theorem dL_law_1195 : decode cL_law 1195 = .ok (.land, 1) := by decide +kernel
theorem dL_law_1196 : decode cL_law 1196 = .ok (.lor, 1) := by decide +kernel
theorem dL_law_1197 : decode cL_law 1197 = .ok (.invokevirtual 146, 3) := by decide +kernel
theorem dL_law_1200 : decode cL_law 1200 = .ok (.if_icmp .eq 102, 3) := by decide +kernel
theorem dL_law_1203 : decode cL_law 1203 = .ok (.iconst 0, 1) := by decide +kernel
theorem dL_law_1204 : decode cL_law 1204 = .ok (.ireturn, 1) := by decide +kernel
theorem dL_law_1205 : decode cL_law 1205 = .ok (.aload_n 1, 1) := by decide +kernel
theorem dL_law_1206 : decode cL_law 1206 = .ok (.aload_n 0, 1) := by decide +kernel
theorem dL_law_1207 : decode cL_law 1207 = .ok (.iload_n 3, 1) := by decide +kernel
theorem dL_law_1208 : decode cL_law 1208 = .ok (.iconst 1, 1) := by decide +kernel
theorem dL_law_1209 : decode cL_law 1209 = .ok (.iadd, 1) := by decide +kernel
theorem dL_law_1210 : decode cL_law 1210 = .ok (.iaload, 1) := by decide +kernel
theorem dL_law_1211 : decode cL_law 1211 = .ok (.aload_n 0, 1) := by decide +kernel
theorem dL_law_1212 : decode cL_law 1212 = .ok (.iload_n 3, 1) := by decide +kernel
theorem dL_law_1213 : decode cL_law 1213 = .ok (.iconst 2, 1) := by decide +kernel
theorem dL_law_1214 : decode cL_law 1214 = .ok (.iadd, 1) := by decide +kernel
theorem dL_law_1215 : decode cL_law 1215 = .ok (.iaload, 1) := by decide +kernel
theorem dL_law_1216 : decode cL_law 1216 = .ok (.invokevirtual 147, 3) := by decide +kernel
theorem dL_law_1219 : decode cL_law 1219 = .ok (.aload_n 2, 1) := by decide +kernel
theorem dL_law_1220 : decode cL_law 1220 = .ok (.aload_n 0, 1) := by decide +kernel
theorem dL_law_1221 : decode cL_law 1221 = .ok (.iload_n 3, 1) := by decide +kernel
theorem dL_law_1222 : decode cL_law 1222 = .ok (.iconst 1, 1) := by decide +kernel
theorem dL_law_1223 : decode cL_law 1223 = .ok (.iadd, 1) := by decide +kernel
theorem dL_law_1224 : decode cL_law 1224 = .ok (.iaload, 1) := by decide +kernel
theorem dL_law_1225 : decode cL_law 1225 = .ok (.aload_n 0, 1) := by decide +kernel
theorem dL_law_1226 : decode cL_law 1226 = .ok (.iload_n 3, 1) := by decide +kernel
theorem dL_law_1227 : decode cL_law 1227 = .ok (.iconst 2, 1) := by decide +kernel
theorem dL_law_1228 : decode cL_law 1228 = .ok (.iadd, 1) := by decide +kernel
theorem dL_law_1229 : decode cL_law 1229 = .ok (.iaload, 1) := by decide +kernel
theorem dL_law_1230 : decode cL_law 1230 = .ok (.invokevirtual 150, 3) := by decide +kernel
theorem dL_law_1233 : decode cL_law 1233 = .ok (.lcmp, 1) := by decide +kernel
theorem dL_law_1234 : decode cL_law 1234 = .ok (.ifCond .eq 68, 3) := by decide +kernel
theorem dL_law_1237 : decode cL_law 1237 = .ok (.iconst 0, 1) := by decide +kernel
theorem dL_law_1238 : decode cL_law 1238 = .ok (.ireturn, 1) := by decide +kernel
theorem dL_law_1239 : decode cL_law 1239 = .ok (.aload_n 1, 1) := by decide +kernel
theorem dL_law_1240 : decode cL_law 1240 = .ok (.aload_n 0, 1) := by decide +kernel
theorem dL_law_1241 : decode cL_law 1241 = .ok (.iload_n 3, 1) := by decide +kernel
theorem dL_law_1242 : decode cL_law 1242 = .ok (.iconst 1, 1) := by decide +kernel
theorem dL_law_1243 : decode cL_law 1243 = .ok (.iadd, 1) := by decide +kernel
theorem dL_law_1244 : decode cL_law 1244 = .ok (.iaload, 1) := by decide +kernel
theorem dL_law_1245 : decode cL_law 1245 = .ok (.aload_n 0, 1) := by decide +kernel
theorem dL_law_1246 : decode cL_law 1246 = .ok (.iload_n 3, 1) := by decide +kernel
theorem dL_law_1247 : decode cL_law 1247 = .ok (.iconst 2, 1) := by decide +kernel
theorem dL_law_1248 : decode cL_law 1248 = .ok (.iadd, 1) := by decide +kernel
theorem dL_law_1249 : decode cL_law 1249 = .ok (.iaload, 1) := by decide +kernel
theorem dL_law_1250 : decode cL_law 1250 = .ok (.aload_n 0, 1) := by decide +kernel
theorem dL_law_1251 : decode cL_law 1251 = .ok (.iload_n 3, 1) := by decide +kernel
theorem dL_law_1252 : decode cL_law 1252 = .ok (.iconst 3, 1) := by decide +kernel
theorem dL_law_1253 : decode cL_law 1253 = .ok (.iadd, 1) := by decide +kernel
theorem dL_law_1254 : decode cL_law 1254 = .ok (.iaload, 1) := by decide +kernel
theorem dL_law_1255 : decode cL_law 1255 = .ok (.aload_n 0, 1) := by decide +kernel
theorem dL_law_1256 : decode cL_law 1256 = .ok (.iload_n 3, 1) := by decide +kernel
theorem dL_law_1257 : decode cL_law 1257 = .ok (.iconst 4, 1) := by decide +kernel
theorem dL_law_1258 : decode cL_law 1258 = .ok (.iadd, 1) := by decide +kernel
theorem dL_law_1259 : decode cL_law 1259 = .ok (.iaload, 1) := by decide +kernel
theorem dL_law_1260 : decode cL_law 1260 = .ok (.aload_n 0, 1) := by decide +kernel
theorem dL_law_1261 : decode cL_law 1261 = .ok (.iload_n 3, 1) := by decide +kernel
theorem dL_law_1262 : decode cL_law 1262 = .ok (.iconst 5, 1) := by decide +kernel
theorem dL_law_1263 : decode cL_law 1263 = .ok (.iadd, 1) := by decide +kernel
theorem dL_law_1264 : decode cL_law 1264 = .ok (.iaload, 1) := by decide +kernel
theorem dL_law_1265 : decode cL_law 1265 = .ok (.invokevirtual 151, 3) := by decide +kernel
theorem dL_law_1268 : decode cL_law 1268 = .ok (.aload_n 2, 1) := by decide +kernel
theorem dL_law_1269 : decode cL_law 1269 = .ok (.aload_n 0, 1) := by decide +kernel
theorem dL_law_1270 : decode cL_law 1270 = .ok (.iload_n 3, 1) := by decide +kernel
theorem dL_law_1271 : decode cL_law 1271 = .ok (.iconst 1, 1) := by decide +kernel
theorem dL_law_1272 : decode cL_law 1272 = .ok (.iadd, 1) := by decide +kernel
theorem dL_law_1273 : decode cL_law 1273 = .ok (.iaload, 1) := by decide +kernel
theorem dL_law_1274 : decode cL_law 1274 = .ok (.aload_n 0, 1) := by decide +kernel
theorem dL_law_1275 : decode cL_law 1275 = .ok (.iload_n 3, 1) := by decide +kernel
theorem dL_law_1276 : decode cL_law 1276 = .ok (.iconst 2, 1) := by decide +kernel
theorem dL_law_1277 : decode cL_law 1277 = .ok (.iadd, 1) := by decide +kernel
theorem dL_law_1278 : decode cL_law 1278 = .ok (.iaload, 1) := by decide +kernel
theorem dL_law_1279 : decode cL_law 1279 = .ok (.aload_n 0, 1) := by decide +kernel
theorem dL_law_1280 : decode cL_law 1280 = .ok (.iload_n 3, 1) := by decide +kernel
theorem dL_law_1281 : decode cL_law 1281 = .ok (.iconst 3, 1) := by decide +kernel
theorem dL_law_1282 : decode cL_law 1282 = .ok (.iadd, 1) := by decide +kernel
theorem dL_law_1283 : decode cL_law 1283 = .ok (.iaload, 1) := by decide +kernel
theorem dL_law_1284 : decode cL_law 1284 = .ok (.aload_n 0, 1) := by decide +kernel
theorem dL_law_1285 : decode cL_law 1285 = .ok (.iload_n 3, 1) := by decide +kernel
theorem dL_law_1286 : decode cL_law 1286 = .ok (.iconst 4, 1) := by decide +kernel
theorem dL_law_1287 : decode cL_law 1287 = .ok (.iadd, 1) := by decide +kernel
theorem dL_law_1288 : decode cL_law 1288 = .ok (.iaload, 1) := by decide +kernel
theorem dL_law_1289 : decode cL_law 1289 = .ok (.aload_n 0, 1) := by decide +kernel
theorem dL_law_1290 : decode cL_law 1290 = .ok (.iload_n 3, 1) := by decide +kernel
theorem dL_law_1291 : decode cL_law 1291 = .ok (.iconst 5, 1) := by decide +kernel
theorem dL_law_1292 : decode cL_law 1292 = .ok (.iadd, 1) := by decide +kernel
theorem dL_law_1293 : decode cL_law 1293 = .ok (.iaload, 1) := by decide +kernel
theorem dL_law_1294 : decode cL_law 1294 = .ok (.invokevirtual 155, 3) := by decide +kernel
theorem dL_law_1297 : decode cL_law 1297 = .ok (.if_icmp .eq 5, 3) := by decide +kernel
theorem dL_law_1300 : decode cL_law 1300 = .ok (.iconst 0, 1) := by decide +kernel
theorem dL_law_1301 : decode cL_law 1301 = .ok (.ireturn, 1) := by decide +kernel
theorem dL_law_1302 : decode cL_law 1302 = .ok (.iinc 3 6, 3) := by decide +kernel
theorem dL_law_1305 : decode cL_law 1305 = .ok (.goto (-1287), 3) := by decide +kernel
theorem dL_law_1308 : decode cL_law 1308 = .ok (.iconst 1, 1) := by decide +kernel
theorem dL_law_1309 : decode cL_law 1309 = .ok (.ireturn, 1) := by decide +kernel
abbrev vwCl : List vw_C := [(RX0, TX0, 5), (RX1, TX1, 3), (RX2, TX2, 10), (RX3, TX3, 9), (RX4, TX4, 9), (RX5, TX5, 4), (RX6, TX6, 7), (RX7, TX7, 3), (RX8, TX8, 11), (RX9, TX9, 63)]
